/-! FrostBox canPassMonths(I)Z -/
set_option maxRecDepth 100000 in
theorem B_FB_canPassMonths_0 {Γ : XG} {d : Nat} {Q : Option Value → XM → Prop} {r0 : Nat} {x1 : Int32} {μ : XM} (o_r0_10 : ob μ r0 10) (h : Call Γ m_FB_hasHouse d [.ref r0] μ (KI (fun v1 μ1 => ((v1 = w 0 → Q (some (.int (w 0))) μ1) ∧ (¬ v1 = w 0 → ((x1 < w 1 → Q (some (.int (w 0))) μ1) ∧ (¬ x1 < w 1 → ((w 60 < x1 → Q (some (.int (w 0))) μ1) ∧ (¬ w 60 < x1 → ∃ a2, xR μ1 r0 9 = some a2 ∧ ob μ1 a2 6 ∧ ((w 999 < (xI μ1 a2 5) + x1 → Q (some (.int (w 0))) μ1) ∧ (¬ w 999 < (xI μ1 a2 5) + x1 → Q (some (.int (w 1))) μ1))))))))))) : G Γ m_FB_canPassMonths (d + 1) (0, 0) Q 0 [.ref r0, .int x1] [] μ := by
  refine run_ok (pc' := 1) [(.aload_n 0, 0, 0, 0)] _ _ _ _ (by decide +kernel) ?_
  show G Γ m_FB_canPassMonths (d + 1) (0, 0) Q 1 [.ref r0, .int x1] [.ref r0] μ
  refine g_invV (M' := m_FB_hasHouse) (b1 := 0) (b2 := 0) (As := []) (a := r0) (st := []) lk_10_162 (by decide +kernel) rfl (dk_FB_hasHouse d) (Nat.le_of_ble_eq_true rfl) (Or.inl ⟨10, o_r0_10, rfl⟩) h ?_
  rintro _ μ1 ⟨v1, rfl, h⟩ hn1
  show G Γ m_FB_canPassMonths (d + 1) (0, 0) Q 4 [.ref r0, .int x1] [.int v1] μ1
  refine g_ifz_eq (pc' := 37) (off := 33) (by decide) (by decide +kernel) (fun hc => ?_) (fun hc => ?_)
  · replace h := h.1 hc
    show G Γ m_FB_canPassMonths (d + 1) (0, 0) Q 37 [.ref r0, .int x1] [] μ1
    refine run_ok (pc' := 38) [(.iconst 0, 0, 0, 0)] _ _ _ _ (by decide +kernel) ?_
    show G Γ m_FB_canPassMonths (d + 1) (0, 0) Q 38 [.ref r0, .int x1] [.int (w 0)] μ1
    exact g_retz (by decide +kernel) rfl (Or.inl rfl) h
  · replace h := h.2 hc
    show G Γ m_FB_canPassMonths (d + 1) (0, 0) Q 7 [.ref r0, .int x1] [] μ1
    refine run_ok (pc' := 9) [(.iload_n 1, 0, 0, 0), (.iconst 1, 0, 0, 0)] _ _ _ _ (by decide +kernel) ?_
    show G Γ m_FB_canPassMonths (d + 1) (0, 0) Q 9 [.ref r0, .int x1] [.int (w 1), .int x1] μ1
    refine g_icmp_lt (pc' := 37) (off := 28) (by decide) (by decide +kernel) (fun hc => ?_) (fun hc => ?_)
    · replace h := h.1 hc
      show G Γ m_FB_canPassMonths (d + 1) (0, 0) Q 37 [.ref r0, .int x1] [] μ1
      refine run_ok (pc' := 38) [(.iconst 0, 0, 0, 0)] _ _ _ _ (by decide +kernel) ?_
      show G Γ m_FB_canPassMonths (d + 1) (0, 0) Q 38 [.ref r0, .int x1] [.int (w 0)] μ1
      exact g_retz (by decide +kernel) rfl (Or.inl rfl) h
    · replace h := h.2 hc
      show G Γ m_FB_canPassMonths (d + 1) (0, 0) Q 12 [.ref r0, .int x1] [] μ1
      refine run_ok (pc' := 15) [(.iload_n 1, 0, 0, 0), (.bipush 60, 0, 0, 0)] _ _ _ _ (by decide +kernel) ?_
      show G Γ m_FB_canPassMonths (d + 1) (0, 0) Q 15 [.ref r0, .int x1] [.int (w 60), .int x1] μ1
      refine g_icmp_gt (pc' := 37) (off := 22) (by decide) (by decide +kernel) (fun hc => ?_) (fun hc => ?_)
      · replace h := h.1 hc
        show G Γ m_FB_canPassMonths (d + 1) (0, 0) Q 37 [.ref r0, .int x1] [] μ1
        refine run_ok (pc' := 38) [(.iconst 0, 0, 0, 0)] _ _ _ _ (by decide +kernel) ?_
        show G Γ m_FB_canPassMonths (d + 1) (0, 0) Q 38 [.ref r0, .int x1] [.int (w 0)] μ1
        exact g_retz (by decide +kernel) rfl (Or.inl rfl) h
      · replace h := h.2 hc
        show G Γ m_FB_canPassMonths (d + 1) (0, 0) Q 18 [.ref r0, .int x1] [] μ1
        obtain ⟨a2, ea2, h⟩ := h
        obtain ⟨o_a2_6, h⟩ := h
        refine run_ok (pc' := 30) [(.aload_n 0, 0, 0, 0), (.getfield 48, 10, 9, 2), (.getfield 209, 6, 5, 0), (.iload_n 1, 0, 0, 0), (.iadd, 0, 0, 0), (.sipush 999, 0, 0, 0)] _ _ _ _ (by decide +kernel) ?_
        show _ ∧ (∃ _, _ ∧ (_ ∧ (_)))
        refine ⟨((o_r0_10).mono hn1), a2, ea2, o_a2_6, ?_⟩
        show G Γ m_FB_canPassMonths (d + 1) (0, 0) Q 30 [.ref r0, .int x1] [.int (w 999), .int ((xI μ1 a2 5) + x1)] μ1
        refine g_icmp_gt (pc' := 37) (off := 7) (by decide) (by decide +kernel) (fun hc => ?_) (fun hc => ?_)
        · replace h := h.1 hc
          show G Γ m_FB_canPassMonths (d + 1) (0, 0) Q 37 [.ref r0, .int x1] [] μ1
          refine run_ok (pc' := 38) [(.iconst 0, 0, 0, 0)] _ _ _ _ (by decide +kernel) ?_
          show G Γ m_FB_canPassMonths (d + 1) (0, 0) Q 38 [.ref r0, .int x1] [.int (w 0)] μ1
          exact g_retz (by decide +kernel) rfl (Or.inl rfl) h
        · replace h := h.2 hc
          show G Γ m_FB_canPassMonths (d + 1) (0, 0) Q 33 [.ref r0, .int x1] [] μ1
          refine run_ok (pc' := 38) [(.iconst 1, 0, 0, 0), (.goto 4, 0, 0, 0)] _ _ _ _ (by decide +kernel) ?_
          show G Γ m_FB_canPassMonths (d + 1) (0, 0) Q 38 [.ref r0, .int x1] [.int (w 1)] μ1
          exact g_retz (by decide +kernel) rfl (Or.inr rfl) h
/-! FrostBox passMonthsAsActs(I)V -/
set_option maxRecDepth 100000 in
theorem lk_10_260 : LkV 10 260 m_Pi_passMonth 1 := ⟨lc_Pi_passMonth, lwG_in (List.mem_of_getElem? (i := 783) rfl) rfl, lwG_in (List.mem_of_getElem? (i := 784) rfl) rfl, lwG_in (List.mem_of_getElem? (i := 785) rfl) rfl⟩
set_option maxRecDepth 100000 in
theorem B_FB_passMonthsAsActs_0 {Γ : XG} {d : Nat} {Q : Option Value → XM → Prop} {r0 : Nat} {x1 : Int32} {μ : XM}  (h : G Γ m_FB_passMonthsAsActs (d + 1) (0, 0) Q 2 [.ref r0, .int x1, .int (w 0)] [] μ) : G Γ m_FB_passMonthsAsActs (d + 1) (0, 0) Q 0 [.ref r0, .int x1] [] μ := by
  refine run_ok (pc' := 2) [(.iconst 0, 0, 0, 0), (.istore_n 2, 0, 0, 0)] _ _ _ _ (by decide +kernel) ?_
  show G Γ m_FB_passMonthsAsActs (d + 1) (0, 0) Q 2 [.ref r0, .int x1, .int (w 0)] [] μ
  exact h
set_option maxRecDepth 100000 in
theorem B_FB_passMonthsAsActs_2 {Γ : XG} {d : Nat} {Q : Option Value → XM → Prop} {r0 : Nat} {x1 x2 : Int32} {μ : XM} (o_r0_10 : ob μ r0 10) (h : ((x2 < x1 → Call Γ m_FB_saveAct d [.ref r0] μ (KV (fun μ1 => ∃ a2, xR μ1 r0 9 = some a2 ∧ ∃ a3, xR μ1 r0 1 = some a3 ∧ ob μ1 a3 1 ∧ ∃ a4, xR μ1 a3 0 = some a4 ∧ inb μ1 0 a4 (w 2) ∧ ob μ1 a2 6 ∧ Call Γ m_Pi_passMonth d [.ref a2, .int (xI μ1 a4 (w 2).toNatClampNeg)] μ1 (KV (fun μ6 => G Γ m_FB_passMonthsAsActs (d + 1) (0, 0) Q 2 [.ref r0, .int x1, .int (x2 + w 1)] [] μ6))))) ∧ (¬ x2 < x1 → Q none μ))) : G Γ m_FB_passMonthsAsActs (d + 1) (0, 0) Q 2 [.ref r0, .int x1, .int x2] [] μ := by
  refine run_ok (pc' := 4) [(.iload_n 2, 0, 0, 0), (.iload_n 1, 0, 0, 0)] _ _ _ _ (by decide +kernel) ?_
  show G Γ m_FB_passMonthsAsActs (d + 1) (0, 0) Q 4 [.ref r0, .int x1, .int x2] [.int x1, .int x2] μ
  refine g_icmp_ge (pc' := 33) (off := 29) (by decide) (by decide +kernel) (fun hc => ?_) (fun hc => ?_)
  · replace h := h.2 hc
    show G Γ m_FB_passMonthsAsActs (d + 1) (0, 0) Q 33 [.ref r0, .int x1, .int x2] [] μ
    exact g_retv (by decide +kernel) rfl h
  · replace h := h.1 hc
    show G Γ m_FB_passMonthsAsActs (d + 1) (0, 0) Q 7 [.ref r0, .int x1, .int x2] [] μ
    refine run_ok (pc' := 8) [(.aload_n 0, 0, 0, 0)] _ _ _ _ (by decide +kernel) ?_
    show G Γ m_FB_passMonthsAsActs (d + 1) (0, 0) Q 8 [.ref r0, .int x1, .int x2] [.ref r0] μ
    refine g_invV (M' := m_FB_saveAct) (b1 := 0) (b2 := 0) (As := []) (a := r0) (st := []) lk_10_248 (by decide +kernel) rfl (dk_FB_saveAct d) (Nat.le_of_ble_eq_true rfl) (Or.inl ⟨10, o_r0_10, rfl⟩) h ?_
    rintro _ μ1 ⟨rfl, h⟩ hn1
    show G Γ m_FB_passMonthsAsActs (d + 1) (0, 0) Q 11 [.ref r0, .int x1, .int x2] [] μ1
    obtain ⟨a2, ea2, h⟩ := h
    obtain ⟨a3, ea3, h⟩ := h
    obtain ⟨o_a3_1, h⟩ := h
    obtain ⟨a4, ea4, h⟩ := h
    obtain ⟨ib5, h⟩ := h
    refine run_ok (pc' := 24) [(.aload_n 0, 0, 0, 0), (.getfield 48, 10, 9, 2), (.aload_n 0, 0, 0, 0), (.getfield 19, 10, 1, 2), (.getfield 166, 1, 0, 2), (.iconst 2, 0, 0, 0), (.iaload, 0, 0, 0)] _ _ _ _ (by decide +kernel) ?_
    show _ ∧ (∃ _, _ ∧ (_ ∧ (∃ _, _ ∧ (_ ∧ (∃ _, _ ∧ (_ ∧ (_)))))))
    refine ⟨((o_r0_10).mono hn1), a2, ea2, ((o_r0_10).mono hn1), a3, ea3, o_a3_1, a4, ea4, ib5, ?_⟩
    show G Γ m_FB_passMonthsAsActs (d + 1) (0, 0) Q 24 [.ref r0, .int x1, .int x2] [.int (xI μ1 a4 (w 2).toNatClampNeg), .ref a2] μ1
    obtain ⟨o_a2_6, h⟩ := h
    refine g_invV (M' := m_Pi_passMonth) (b1 := 0) (b2 := 0) (As := [.int (xI μ1 a4 (w 2).toNatClampNeg)]) (a := a2) (st := []) lk_10_260 (by decide +kernel) rfl (dk_Pi_passMonth d) (Nat.le_of_ble_eq_true rfl) (Or.inl ⟨6, o_a2_6, rfl⟩) h ?_
    rintro _ μ6 ⟨rfl, h⟩ hn6
    show G Γ m_FB_passMonthsAsActs (d + 1) (0, 0) Q 27 [.ref r0, .int x1, .int x2] [] μ6
    refine run_ok (pc' := 2) [(.iinc 2 1, 0, 0, 0), (.goto (-28), 0, 0, 0)] _ _ _ _ (by decide +kernel) ?_
    show G Γ m_FB_passMonthsAsActs (d + 1) (0, 0) Q 2 [.ref r0, .int x1, .int (x2 + w 1)] [] μ6
    exact h
/-! FrostBox months(I)I -/
set_option maxRecDepth 100000 in
theorem lk_10_266 : LkV 10 266 m_FB_passMonthsAsActs 1 := ⟨lc_FB_passMonthsAsActs, lwG_in (List.mem_of_getElem? (i := 779) rfl) rfl, lwG_in (List.mem_of_getElem? (i := 781) rfl) rfl, lwG_in (List.mem_of_getElem? (i := 27) rfl) rfl⟩
set_option maxRecDepth 100000 in
theorem lk_10_263 : LkV 10 263 m_FB_canPassMonths 1 := ⟨lc_FB_canPassMonths, lwG_in (List.mem_of_getElem? (i := 775) rfl) rfl, lwG_in (List.mem_of_getElem? (i := 777) rfl) rfl, lwG_in (List.mem_of_getElem? (i := 26) rfl) rfl⟩
set_option maxRecDepth 100000 in
theorem B_FB_months_0 {Γ : XG} {d : Nat} {Q : Option Value → XM → Prop} {r0 : Nat} {x1 : Int32} {μ : XM} (o_r0_10 : ob μ r0 10) (h : Call Γ m_FB_canPassMonths d [.ref r0, .int x1] μ (KI (fun v1 μ1 => ((v1 = w 0 → Q (some (.int (w (-1)))) μ1) ∧ (¬ v1 = w 0 → Call Γ m_FB_passMonthsAsActs d [.ref r0, .int x1] μ1 (KV (fun μ2 => ∃ a3, xR μ2 r0 9 = some a3 ∧ ob μ2 a3 6 ∧ Q (some (.int (xI μ2 a3 5))) μ2))))))) : G Γ m_FB_months (d + 1) (0, 0) Q 0 [.ref r0, .int x1] [] μ := by
  refine run_ok (pc' := 2) [(.aload_n 0, 0, 0, 0), (.iload_n 1, 0, 0, 0)] _ _ _ _ (by decide +kernel) ?_
  show G Γ m_FB_months (d + 1) (0, 0) Q 2 [.ref r0, .int x1] [.int x1, .ref r0] μ
  refine g_invV (M' := m_FB_canPassMonths) (b1 := 0) (b2 := 0) (As := [.int x1]) (a := r0) (st := []) lk_10_263 (by decide +kernel) rfl (dk_FB_canPassMonths d) (Nat.le_of_ble_eq_true rfl) (Or.inl ⟨10, o_r0_10, rfl⟩) h ?_
  rintro _ μ1 ⟨v1, rfl, h⟩ hn1
  show G Γ m_FB_months (d + 1) (0, 0) Q 5 [.ref r0, .int x1] [.int v1] μ1
  refine g_ifz_ne (pc' := 10) (off := 5) (by decide) (by decide +kernel) (fun hc => ?_) (fun hc => ?_)
  · replace h := h.2 hc
    show G Γ m_FB_months (d + 1) (0, 0) Q 10 [.ref r0, .int x1] [] μ1
    refine run_ok (pc' := 12) [(.aload_n 0, 0, 0, 0), (.iload_n 1, 0, 0, 0)] _ _ _ _ (by decide +kernel) ?_
    show G Γ m_FB_months (d + 1) (0, 0) Q 12 [.ref r0, .int x1] [.int x1, .ref r0] μ1
    refine g_invV (M' := m_FB_passMonthsAsActs) (b1 := 0) (b2 := 0) (As := [.int x1]) (a := r0) (st := []) lk_10_266 (by decide +kernel) rfl (dk_FB_passMonthsAsActs d) (Nat.le_of_ble_eq_true rfl) (Or.inl ⟨10, ((o_r0_10).mono hn1), rfl⟩) h ?_
    rintro _ μ2 ⟨rfl, h⟩ hn2
    show G Γ m_FB_months (d + 1) (0, 0) Q 15 [.ref r0, .int x1] [] μ2
    obtain ⟨a3, ea3, h⟩ := h
    obtain ⟨o_a3_6, h⟩ := h
    refine run_ok (pc' := 22) [(.aload_n 0, 0, 0, 0), (.getfield 48, 10, 9, 2), (.getfield 209, 6, 5, 0)] _ _ _ _ (by decide +kernel) ?_
    show _ ∧ (∃ _, _ ∧ (_ ∧ (_)))
    refine ⟨(((o_r0_10).mono hn1).mono hn2), a3, ea3, o_a3_6, ?_⟩
    show G Γ m_FB_months (d + 1) (0, 0) Q 22 [.ref r0, .int x1] [.int (xI μ2 a3 5)] μ2
    exact g_reti (by decide +kernel) rfl h
  · replace h := h.1 hc
    show G Γ m_FB_months (d + 1) (0, 0) Q 8 [.ref r0, .int x1] [] μ1
    refine run_ok (pc' := 9) [(.iconst (-1), 0, 0, 0)] _ _ _ _ (by decide +kernel) ?_
    show G Γ m_FB_months (d + 1) (0, 0) Q 9 [.ref r0, .int x1] [.int (w (-1))] μ1
    exact g_reti (by decide +kernel) rfl h
/-! FrostBox isHours(I)Z -/
set_option maxRecDepth 100000 in
theorem B_FB_isHours_0 {Γ : XG} {d : Nat} {Q : Option Value → XM → Prop} {r0 : Nat} {x1 : Int32} {μ : XM} (o_r0_10 : ob μ r0 10) (h : Call Γ m_FB_hasHouse d [.ref r0] μ (KI (fun v1 μ1 => ((v1 = w 0 → Q (some (.int (w 0))) μ1) ∧ (¬ v1 = w 0 → ((x1 < w 1 → Q (some (.int (w 0))) μ1) ∧ (¬ x1 < w 1 → ((w 99 < x1 → Q (some (.int (w 0))) μ1) ∧ (¬ w 99 < x1 → Q (some (.int (w 1))) μ1))))))))) : G Γ m_FB_isHours (d + 1) (0, 0) Q 0 [.ref r0, .int x1] [] μ := by
  refine run_ok (pc' := 1) [(.aload_n 0, 0, 0, 0)] _ _ _ _ (by decide +kernel) ?_
  show G Γ m_FB_isHours (d + 1) (0, 0) Q 1 [.ref r0, .int x1] [.ref r0] μ
  refine g_invV (M' := m_FB_hasHouse) (b1 := 0) (b2 := 0) (As := []) (a := r0) (st := []) lk_10_162 (by decide +kernel) rfl (dk_FB_hasHouse d) (Nat.le_of_ble_eq_true rfl) (Or.inl ⟨10, o_r0_10, rfl⟩) h ?_
  rintro _ μ1 ⟨v1, rfl, h⟩ hn1
  show G Γ m_FB_isHours (d + 1) (0, 0) Q 4 [.ref r0, .int x1] [.int v1] μ1
  refine g_ifz_eq (pc' := 22) (off := 18) (by decide) (by decide +kernel) (fun hc => ?_) (fun hc => ?_)
  · replace h := h.1 hc
    show G Γ m_FB_isHours (d + 1) (0, 0) Q 22 [.ref r0, .int x1] [] μ1
    refine run_ok (pc' := 23) [(.iconst 0, 0, 0, 0)] _ _ _ _ (by decide +kernel) ?_
    show G Γ m_FB_isHours (d + 1) (0, 0) Q 23 [.ref r0, .int x1] [.int (w 0)] μ1
    exact g_retz (by decide +kernel) rfl (Or.inl rfl) h
  · replace h := h.2 hc
    show G Γ m_FB_isHours (d + 1) (0, 0) Q 7 [.ref r0, .int x1] [] μ1
    refine run_ok (pc' := 9) [(.iload_n 1, 0, 0, 0), (.iconst 1, 0, 0, 0)] _ _ _ _ (by decide +kernel) ?_
    show G Γ m_FB_isHours (d + 1) (0, 0) Q 9 [.ref r0, .int x1] [.int (w 1), .int x1] μ1
    refine g_icmp_lt (pc' := 22) (off := 13) (by decide) (by decide +kernel) (fun hc => ?_) (fun hc => ?_)
    · replace h := h.1 hc
      show G Γ m_FB_isHours (d + 1) (0, 0) Q 22 [.ref r0, .int x1] [] μ1
      refine run_ok (pc' := 23) [(.iconst 0, 0, 0, 0)] _ _ _ _ (by decide +kernel) ?_
      show G Γ m_FB_isHours (d + 1) (0, 0) Q 23 [.ref r0, .int x1] [.int (w 0)] μ1
      exact g_retz (by decide +kernel) rfl (Or.inl rfl) h
    · replace h := h.2 hc
      show G Γ m_FB_isHours (d + 1) (0, 0) Q 12 [.ref r0, .int x1] [] μ1
      refine run_ok (pc' := 15) [(.iload_n 1, 0, 0, 0), (.bipush 99, 0, 0, 0)] _ _ _ _ (by decide +kernel) ?_
      show G Γ m_FB_isHours (d + 1) (0, 0) Q 15 [.ref r0, .int x1] [.int (w 99), .int x1] μ1
      refine g_icmp_gt (pc' := 22) (off := 7) (by decide) (by decide +kernel) (fun hc => ?_) (fun hc => ?_)
      · replace h := h.1 hc
        show G Γ m_FB_isHours (d + 1) (0, 0) Q 22 [.ref r0, .int x1] [] μ1
        refine run_ok (pc' := 23) [(.iconst 0, 0, 0, 0)] _ _ _ _ (by decide +kernel) ?_
        show G Γ m_FB_isHours (d + 1) (0, 0) Q 23 [.ref r0, .int x1] [.int (w 0)] μ1
        exact g_retz (by decide +kernel) rfl (Or.inl rfl) h
      · replace h := h.2 hc
        show G Γ m_FB_isHours (d + 1) (0, 0) Q 18 [.ref r0, .int x1] [] μ1
        refine run_ok (pc' := 23) [(.iconst 1, 0, 0, 0), (.goto 4, 0, 0, 0)] _ _ _ _ (by decide +kernel) ?_
        show G Γ m_FB_isHours (d + 1) (0, 0) Q 23 [.ref r0, .int x1] [.int (w 1)] μ1
        exact g_retz (by decide +kernel) rfl (Or.inr rfl) h
/-! FrostBox off(I)I -/
set_option maxRecDepth 100000 in
theorem lk_10_275 : LkV 10 275 m_Pi_growOlder 1 := ⟨lc_Pi_growOlder, lwG_in (List.mem_of_getElem? (i := 809) rfl) rfl, lwG_in (List.mem_of_getElem? (i := 788) rfl) rfl, lwG_in (List.mem_of_getElem? (i := 789) rfl) rfl⟩
set_option maxRecDepth 100000 in
theorem lk_10_272 : LkV 10 272 m_FB_hoursTooMany 2 := ⟨lc_FB_hoursTooMany, lwG_in (List.mem_of_getElem? (i := 801) rfl) rfl, lwG_in (List.mem_of_getElem? (i := 803) rfl) rfl, lwG_in (List.mem_of_getElem? (i := 29) rfl) rfl⟩
set_option maxRecDepth 100000 in
theorem lk_10_269 : LkV 10 269 m_FB_isHours 1 := ⟨lc_FB_isHours, lwG_in (List.mem_of_getElem? (i := 797) rfl) rfl, lwG_in (List.mem_of_getElem? (i := 799) rfl) rfl, lwG_in (List.mem_of_getElem? (i := 28) rfl) rfl⟩
set_option maxRecDepth 100000 in
theorem B_FB_off_0 {Γ : XG} {d : Nat} {Q : Option Value → XM → Prop} {r0 : Nat} {x1 : Int32} {μ : XM} (o_r0_10 : ob μ r0 10) (h : Call Γ m_FB_isHours d [.ref r0, .int x1] μ (KI (fun v1 μ1 => ((v1 = w 0 → Q (some (.int (w (-1)))) μ1) ∧ (¬ v1 = w 0 → Call Γ m_FB_saveAct d [.ref r0] μ1 (KV (fun μ2 => ∃ a3, xR μ2 r0 9 = some a3 ∧ Call Γ m_FB_hoursTooMany d [.ref r0, .ref a3, .int x1] μ2 (KI (fun v4 μ4 => xR μ4 r0 9 = some a3 ∧ ob μ4 a3 6 ∧ Call Γ m_Pi_growOlder d [.ref a3, .int v4] μ4 (KV (fun μ6 => Q (some (.int v4)) μ6))))))))))) : G Γ m_FB_off (d + 1) (0, 0) Q 0 [.ref r0, .int x1] [] μ := by
  refine run_ok (pc' := 2) [(.aload_n 0, 0, 0, 0), (.iload_n 1, 0, 0, 0)] _ _ _ _ (by decide +kernel) ?_
  show G Γ m_FB_off (d + 1) (0, 0) Q 2 [.ref r0, .int x1] [.int x1, .ref r0] μ
  refine g_invV (M' := m_FB_isHours) (b1 := 0) (b2 := 0) (As := [.int x1]) (a := r0) (st := []) lk_10_269 (by decide +kernel) rfl (dk_FB_isHours d) (Nat.le_of_ble_eq_true rfl) (Or.inl ⟨10, o_r0_10, rfl⟩) h ?_
  rintro _ μ1 ⟨v1, rfl, h⟩ hn1
  show G Γ m_FB_off (d + 1) (0, 0) Q 5 [.ref r0, .int x1] [.int v1] μ1
  refine g_ifz_ne (pc' := 10) (off := 5) (by decide) (by decide +kernel) (fun hc => ?_) (fun hc => ?_)
  · replace h := h.2 hc
    show G Γ m_FB_off (d + 1) (0, 0) Q 10 [.ref r0, .int x1] [] μ1
    refine run_ok (pc' := 11) [(.aload_n 0, 0, 0, 0)] _ _ _ _ (by decide +kernel) ?_
    show G Γ m_FB_off (d + 1) (0, 0) Q 11 [.ref r0, .int x1] [.ref r0] μ1
    refine g_invV (M' := m_FB_saveAct) (b1 := 0) (b2 := 0) (As := []) (a := r0) (st := []) lk_10_248 (by decide +kernel) rfl (dk_FB_saveAct d) (Nat.le_of_ble_eq_true rfl) (Or.inl ⟨10, ((o_r0_10).mono hn1), rfl⟩) h ?_
    rintro _ μ2 ⟨rfl, h⟩ hn2
    show G Γ m_FB_off (d + 1) (0, 0) Q 14 [.ref r0, .int x1] [] μ2
    obtain ⟨a3, ea3, h⟩ := h
    refine run_ok (pc' := 20) [(.aload_n 0, 0, 0, 0), (.aload_n 0, 0, 0, 0), (.getfield 48, 10, 9, 2), (.iload_n 1, 0, 0, 0)] _ _ _ _ (by decide +kernel) ?_
    show _ ∧ (∃ _, _ ∧ (_))
    refine ⟨(((o_r0_10).mono hn1).mono hn2), a3, ea3, ?_⟩
    show G Γ m_FB_off (d + 1) (0, 0) Q 20 [.ref r0, .int x1] [.int x1, .ref a3, .ref r0] μ2
    refine g_invV (M' := m_FB_hoursTooMany) (b1 := 0) (b2 := 0) (As := [.ref a3, .int x1]) (a := r0) (st := []) lk_10_272 (by decide +kernel) rfl (dk_FB_hoursTooMany d) (Nat.le_of_ble_eq_true rfl) (Or.inl ⟨10, (((o_r0_10).mono hn1).mono hn2), rfl⟩) h ?_
    rintro _ μ4 ⟨v4, rfl, h⟩ hn4
    show G Γ m_FB_off (d + 1) (0, 0) Q 23 [.ref r0, .int x1] [.int v4] μ4
    obtain ⟨ea5, h⟩ := h
    refine run_ok (pc' := 29) [(.istore_n 2, 0, 0, 0), (.aload_n 0, 0, 0, 0), (.getfield 48, 10, 9, 2), (.iload_n 2, 0, 0, 0)] _ _ _ _ (by decide +kernel) ?_
    show _ ∧ (∃ _, _ ∧ (_))
    refine ⟨((((o_r0_10).mono hn1).mono hn2).mono hn4), a3, ea5, ?_⟩
    show G Γ m_FB_off (d + 1) (0, 0) Q 29 [.ref r0, .int x1, .int v4] [.int v4, .ref a3] μ4
    obtain ⟨o_a3_6, h⟩ := h
    refine g_invV (M' := m_Pi_growOlder) (b1 := 0) (b2 := 0) (As := [.int v4]) (a := a3) (st := []) lk_10_275 (by decide +kernel) rfl (dk_Pi_growOlder d) (Nat.le_of_ble_eq_true rfl) (Or.inl ⟨6, o_a3_6, rfl⟩) h ?_
    rintro _ μ6 ⟨rfl, h⟩ hn6
    show G Γ m_FB_off (d + 1) (0, 0) Q 32 [.ref r0, .int x1, .int v4] [] μ6
    refine run_ok (pc' := 33) [(.iload_n 2, 0, 0, 0)] _ _ _ _ (by decide +kernel) ?_
    show G Γ m_FB_off (d + 1) (0, 0) Q 33 [.ref r0, .int x1, .int v4] [.int v4] μ6
    exact g_reti (by decide +kernel) rfl h
  · replace h := h.1 hc
    show G Γ m_FB_off (d + 1) (0, 0) Q 8 [.ref r0, .int x1] [] μ1
    refine run_ok (pc' := 9) [(.iconst (-1), 0, 0, 0)] _ _ _ _ (by decide +kernel) ?_
    show G Γ m_FB_off (d + 1) (0, 0) Q 9 [.ref r0, .int x1] [.int (w (-1))] μ1
    exact g_reti (by decide +kernel) rfl h
/-! FrostBox years(IJ)I -/
set_option maxRecDepth 100000 in
theorem lk_10_278 : LkV 10 278 m_FB_liveMonth 1 := ⟨lc_FB_liveMonth, lwG_in (List.mem_of_getElem? (i := 814) rfl) rfl, lwG_in (List.mem_of_getElem? (i := 816) rfl) rfl, lwG_in (List.mem_of_getElem? (i := 31) rfl) rfl⟩
set_option maxRecDepth 100000 in
theorem B_FB_years_0 {Γ : XG} {d : Nat} {Q : Option Value → XM → Prop} {r0 : Nat} {x1 : Int32} {y2 : Int64} {μ : XM} (o_r0_10 : ob μ r0 10) (h : Call Γ m_FB_canPassMonths d [.ref r0, .int x1] μ (KI (fun v1 μ1 => ((v1 = w 0 → Q (some (.int (w (-1)))) μ1) ∧ (¬ v1 = w 0 → G Γ m_FB_years (d + 1) (0, 0) Q 16 [.ref r0, .int x1, jk, jk, .long y2, jk, .int (w 0)] [] μ1))))) : G Γ m_FB_years (d + 1) (0, 0) Q 0 [.ref r0, .int x1, .long y2, jk] [] μ := by
  refine run_ok (pc' := 2) [(.aload_n 0, 0, 0, 0), (.iload_n 1, 0, 0, 0)] _ _ _ _ (by decide +kernel) ?_
  show G Γ m_FB_years (d + 1) (0, 0) Q 2 [.ref r0, .int x1, .long y2, jk] [.int x1, .ref r0] μ
  refine g_invV (M' := m_FB_canPassMonths) (b1 := 0) (b2 := 0) (As := [.int x1]) (a := r0) (st := []) lk_10_263 (by decide +kernel) rfl (dk_FB_canPassMonths d) (Nat.le_of_ble_eq_true rfl) (Or.inl ⟨10, o_r0_10, rfl⟩) h ?_
  rintro _ μ1 ⟨v1, rfl, h⟩ hn1
  show G Γ m_FB_years (d + 1) (0, 0) Q 5 [.ref r0, .int x1, .long y2, jk] [.int v1] μ1
  refine g_ifz_ne (pc' := 10) (off := 5) (by decide) (by decide +kernel) (fun hc => ?_) (fun hc => ?_)
  · replace h := h.2 hc
    show G Γ m_FB_years (d + 1) (0, 0) Q 10 [.ref r0, .int x1, .long y2, jk] [] μ1
    refine run_ok (pc' := 16) [(.lload_n 2, 0, 0, 0), (.lstore 4, 0, 0, 0), (.iconst 0, 0, 0, 0), (.istore 6, 0, 0, 0)] _ _ _ _ (by decide +kernel) ?_
    show G Γ m_FB_years (d + 1) (0, 0) Q 16 [.ref r0, .int x1, .long y2, jk, .long y2, jk, .int (w 0)] [] μ1
    exact g_wk (ls' := [.ref r0, .int x1, jk, jk, .long y2, jk, .int (w 0)]) ⟨Or.inr rfl, Or.inr rfl, Or.inl rfl, Or.inl rfl, Or.inr rfl, Or.inl rfl, Or.inr rfl, trivial⟩ h
  · replace h := h.1 hc
    show G Γ m_FB_years (d + 1) (0, 0) Q 8 [.ref r0, .int x1, .long y2, jk] [] μ1
    refine run_ok (pc' := 9) [(.iconst (-1), 0, 0, 0)] _ _ _ _ (by decide +kernel) ?_
    show G Γ m_FB_years (d + 1) (0, 0) Q 9 [.ref r0, .int x1, .long y2, jk] [.int (w (-1))] μ1
    exact g_reti (by decide +kernel) rfl h
set_option maxRecDepth 100000 in
theorem B_FB_years_16 {Γ : XG} {d : Nat} {Q : Option Value → XM → Prop} {r0 r0_9 : Nat} {x1 x6 : Int32} {y4 : Int64} {μ : XM} (o_r0_10 : ob μ r0 10) (e_r0_9 : xR μ r0 9 = some r0_9) (o_r0_9_6 : ob μ r0_9 6) (h : ((x6 < x1 → Call Γ m_FB_liveMonth d [.ref r0, .long y4] μ (KL (fun v1 μ1 => G Γ m_FB_years (d + 1) (0, 0) Q 16 [.ref r0, .int x1, jk, jk, .long v1, jk, .int (x6 + w 1)] [] μ1))) ∧ (¬ x6 < x1 → Q (some (.int (xI μ r0_9 5))) μ))) : G Γ m_FB_years (d + 1) (0, 0) Q 16 [.ref r0, .int x1, jk, jk, .long y4, jk, .int x6] [] μ := by
  refine run_ok (pc' := 19) [(.iload 6, 0, 0, 0), (.iload_n 1, 0, 0, 0)] _ _ _ _ (by decide +kernel) ?_
  show G Γ m_FB_years (d + 1) (0, 0) Q 19 [.ref r0, .int x1, jk, jk, .long y4, jk, .int x6] [.int x1, .int x6] μ
  refine g_icmp_ge (pc' := 36) (off := 17) (by decide) (by decide +kernel) (fun hc => ?_) (fun hc => ?_)
  · replace h := h.2 hc
    show G Γ m_FB_years (d + 1) (0, 0) Q 36 [.ref r0, .int x1, jk, jk, .long y4, jk, .int x6] [] μ
    refine run_ok (pc' := 43) [(.aload_n 0, 0, 0, 0), (.getfield 48, 10, 9, 2), (.getfield 209, 6, 5, 0)] _ _ _ _ (by decide +kernel) ?_
    show _ ∧ (∃ _, _ ∧ (_ ∧ (_)))
    refine ⟨o_r0_10, r0_9, e_r0_9, o_r0_9_6, ?_⟩
    show G Γ m_FB_years (d + 1) (0, 0) Q 43 [.ref r0, .int x1, jk, jk, .long y4, jk, .int x6] [.int (xI μ r0_9 5)] μ
    exact g_reti (by decide +kernel) rfl h
  · replace h := h.1 hc
    show G Γ m_FB_years (d + 1) (0, 0) Q 22 [.ref r0, .int x1, jk, jk, .long y4, jk, .int x6] [] μ
    refine run_ok (pc' := 25) [(.aload_n 0, 0, 0, 0), (.lload 4, 0, 0, 0)] _ _ _ _ (by decide +kernel) ?_
    show G Γ m_FB_years (d + 1) (0, 0) Q 25 [.ref r0, .int x1, jk, jk, .long y4, jk, .int x6] [.long y4, .ref r0] μ
    refine g_invV (M' := m_FB_liveMonth) (b1 := 0) (b2 := 0) (As := [.long y4]) (a := r0) (st := []) lk_10_278 (by decide +kernel) rfl (dk_FB_liveMonth d) (Nat.le_of_ble_eq_true rfl) (Or.inl ⟨10, o_r0_10, rfl⟩) h ?_
    rintro _ μ1 ⟨v1, rfl, h⟩ hn1
    show G Γ m_FB_years (d + 1) (0, 0) Q 28 [.ref r0, .int x1, jk, jk, .long y4, jk, .int x6] [.long v1] μ1
    refine run_ok (pc' := 16) [(.lstore 4, 0, 0, 0), (.iinc 6 1, 0, 0, 0), (.goto (-17), 0, 0, 0)] _ _ _ _ (by decide +kernel) ?_
    show G Γ m_FB_years (d + 1) (0, 0) Q 16 [.ref r0, .int x1, jk, jk, .long v1, jk, .int (x6 + w 1)] [] μ1
    exact h
/-! FrostBox liveMonth(J)J -/
set_option maxRecDepth 100000 in
theorem lk_10_285 : LkS 10 285 m_FB_drawnOf 2 := ⟨lc_FB_drawnOf, lwG_in (List.mem_of_getElem? (i := 823) rfl) rfl, lwG_in (List.mem_of_getElem? (i := 824) rfl) rfl⟩
set_option maxRecDepth 100000 in
theorem lk_10_282 : LkS 10 282 m_FB_nextDraw 1 := ⟨lc_FB_nextDraw, lwG_in (List.mem_of_getElem? (i := 818) rfl) rfl, lwG_in (List.mem_of_getElem? (i := 819) rfl) rfl⟩
set_option maxRecDepth 100000 in
theorem B_FB_liveMonth_0 {Γ : XG} {d : Nat} {Q : Option Value → XM → Prop} {r0 : Nat} {y1 : Int64} {μ : XM} (o_r0_10 : ob μ r0 10) (h : Call Γ m_FB_saveAct d [.ref r0] μ (KV (fun μ1 => Call Γ m_FB_nextDraw d [.long y1] μ1 (KL (fun v2 μ2 => ∃ a3, xR μ2 r0 1 = some a3 ∧ ob μ2 a3 1 ∧ Call Γ m_FB_drawnOf d [.long v2, .int (xI μ2 a3 4)] μ2 (KI (fun v4 μ4 => Call Γ m_FB_nextDraw d [.long v2] μ4 (KL (fun v5 μ5 => Call Γ m_FB_drawnOf d [.long v5, .int (w 9)] μ5 (KI (fun v6 μ6 => Call Γ m_FB_nextDraw d [.long v5] μ6 (KL (fun v7 μ7 => Call Γ m_FB_drawnOf d [.long v7, .int (w 10)] μ7 (KI (fun v8 μ8 => ((v8 < xI μ8 r0 8 → G Γ m_FB_liveMonth (d + 1) (0, 0) Q 60 [.ref r0, jk, jk, .long v7, jk, .int v4, .int (v6 + (w 1))] [.int (w 1)] μ8) ∧ (¬ v8 < xI μ8 r0 8 → G Γ m_FB_liveMonth (d + 1) (0, 0) Q 60 [.ref r0, jk, jk, .long v7, jk, .int v4, .int (v6 + (w 1))] [.int (w 0)] μ8))))))))))))))))) : G Γ m_FB_liveMonth (d + 1) (0, 0) Q 0 [.ref r0, .long y1, jk] [] μ := by
  refine run_ok (pc' := 1) [(.aload_n 0, 0, 0, 0)] _ _ _ _ (by decide +kernel) ?_
  show G Γ m_FB_liveMonth (d + 1) (0, 0) Q 1 [.ref r0, .long y1, jk] [.ref r0] μ
  refine g_invV (M' := m_FB_saveAct) (b1 := 0) (b2 := 0) (As := []) (a := r0) (st := []) lk_10_248 (by decide +kernel) rfl (dk_FB_saveAct d) (Nat.le_of_ble_eq_true rfl) (Or.inl ⟨10, o_r0_10, rfl⟩) h ?_
  rintro _ μ1 ⟨rfl, h⟩ hn1
  show G Γ m_FB_liveMonth (d + 1) (0, 0) Q 4 [.ref r0, .long y1, jk] [] μ1
  refine run_ok (pc' := 5) [(.lload_n 1, 0, 0, 0)] _ _ _ _ (by decide +kernel) ?_
  show G Γ m_FB_liveMonth (d + 1) (0, 0) Q 5 [.ref r0, .long y1, jk] [.long y1] μ1
  refine g_invS (M' := m_FB_nextDraw) (b1 := 0) (b2 := 0) (As := [.long y1]) (st := []) lk_10_282 (by decide +kernel) rfl (dk_FB_nextDraw d) (Nat.le_of_ble_eq_true rfl) h ?_
  rintro _ μ2 ⟨v2, rfl, h⟩ hn2
  show G Γ m_FB_liveMonth (d + 1) (0, 0) Q 8 [.ref r0, .long y1, jk] [.long v2] μ2
  obtain ⟨a3, ea3, h⟩ := h
  obtain ⟨o_a3_1, h⟩ := h
  refine run_ok (pc' := 17) [(.lstore_n 3, 0, 0, 0), (.lload_n 3, 0, 0, 0), (.aload_n 0, 0, 0, 0), (.getfield 19, 10, 1, 2), (.getfield 161, 1, 4, 0)] _ _ _ _ (by decide +kernel) ?_
  show _ ∧ (∃ _, _ ∧ (_ ∧ (_)))
  refine ⟨(((o_r0_10).mono hn1).mono hn2), a3, ea3, o_a3_1, ?_⟩
  show G Γ m_FB_liveMonth (d + 1) (0, 0) Q 17 [.ref r0, .long y1, jk, .long v2, jk] [.int (xI μ2 a3 4), .long v2] μ2
  refine g_invS (M' := m_FB_drawnOf) (b1 := 0) (b2 := 0) (As := [.long v2, .int (xI μ2 a3 4)]) (st := []) lk_10_285 (by decide +kernel) rfl (dk_FB_drawnOf d) (Nat.le_of_ble_eq_true rfl) h ?_
  rintro _ μ4 ⟨v4, rfl, h⟩ hn4
  show G Γ m_FB_liveMonth (d + 1) (0, 0) Q 20 [.ref r0, .long y1, jk, .long v2, jk] [.int v4] μ4
  refine run_ok (pc' := 23) [(.istore 5, 0, 0, 0), (.lload_n 3, 0, 0, 0)] _ _ _ _ (by decide +kernel) ?_
  show G Γ m_FB_liveMonth (d + 1) (0, 0) Q 23 [.ref r0, .long y1, jk, .long v2, jk, .int v4] [.long v2] μ4
  refine g_invS (M' := m_FB_nextDraw) (b1 := 0) (b2 := 0) (As := [.long v2]) (st := []) lk_10_282 (by decide +kernel) rfl (dk_FB_nextDraw d) (Nat.le_of_ble_eq_true rfl) h ?_
  rintro _ μ5 ⟨v5, rfl, h⟩ hn5
  show G Γ m_FB_liveMonth (d + 1) (0, 0) Q 26 [.ref r0, .long y1, jk, .long v2, jk, .int v4] [.long v5] μ5
  refine run_ok (pc' := 30) [(.lstore_n 3, 0, 0, 0), (.lload_n 3, 0, 0, 0), (.bipush 9, 0, 0, 0)] _ _ _ _ (by decide +kernel) ?_
  show G Γ m_FB_liveMonth (d + 1) (0, 0) Q 30 [.ref r0, .long y1, jk, .long v5, jk, .int v4] [.int (w 9), .long v5] μ5
  refine g_invS (M' := m_FB_drawnOf) (b1 := 0) (b2 := 0) (As := [.long v5, .int (w 9)]) (st := []) lk_10_285 (by decide +kernel) rfl (dk_FB_drawnOf d) (Nat.le_of_ble_eq_true rfl) h ?_
  rintro _ μ6 ⟨v6, rfl, h⟩ hn6
  show G Γ m_FB_liveMonth (d + 1) (0, 0) Q 33 [.ref r0, .long y1, jk, .long v5, jk, .int v4] [.int v6] μ6
  refine run_ok (pc' := 38) [(.iconst 1, 0, 0, 0), (.iadd, 0, 0, 0), (.istore 6, 0, 0, 0), (.lload_n 3, 0, 0, 0)] _ _ _ _ (by decide +kernel) ?_
  show G Γ m_FB_liveMonth (d + 1) (0, 0) Q 38 [.ref r0, .long y1, jk, .long v5, jk, .int v4, .int (v6 + (w 1))] [.long v5] μ6
  refine g_invS (M' := m_FB_nextDraw) (b1 := 0) (b2 := 0) (As := [.long v5]) (st := []) lk_10_282 (by decide +kernel) rfl (dk_FB_nextDraw d) (Nat.le_of_ble_eq_true rfl) h ?_
  rintro _ μ7 ⟨v7, rfl, h⟩ hn7
  show G Γ m_FB_liveMonth (d + 1) (0, 0) Q 41 [.ref r0, .long y1, jk, .long v5, jk, .int v4, .int (v6 + (w 1))] [.long v7] μ7
  refine run_ok (pc' := 45) [(.lstore_n 3, 0, 0, 0), (.lload_n 3, 0, 0, 0), (.bipush 10, 0, 0, 0)] _ _ _ _ (by decide +kernel) ?_
  show G Γ m_FB_liveMonth (d + 1) (0, 0) Q 45 [.ref r0, .long y1, jk, .long v7, jk, .int v4, .int (v6 + (w 1))] [.int (w 10), .long v7] μ7
  refine g_invS (M' := m_FB_drawnOf) (b1 := 0) (b2 := 0) (As := [.long v7, .int (w 10)]) (st := []) lk_10_285 (by decide +kernel) rfl (dk_FB_drawnOf d) (Nat.le_of_ble_eq_true rfl) h ?_
  rintro _ μ8 ⟨v8, rfl, h⟩ hn8
  show G Γ m_FB_liveMonth (d + 1) (0, 0) Q 48 [.ref r0, .long y1, jk, .long v7, jk, .int v4, .int (v6 + (w 1))] [.int v8] μ8
  refine run_ok (pc' := 52) [(.aload_n 0, 0, 0, 0), (.getfield 42, 10, 8, 0)] _ _ _ _ (by decide +kernel) ?_
  show _ ∧ (_)
  refine ⟨((((((((o_r0_10).mono hn1).mono hn2).mono hn4).mono hn5).mono hn6).mono hn7).mono hn8), ?_⟩
  show G Γ m_FB_liveMonth (d + 1) (0, 0) Q 52 [.ref r0, .long y1, jk, .long v7, jk, .int v4, .int (v6 + (w 1))] [.int (xI μ8 r0 8), .int v8] μ8
  refine g_icmp_ge (pc' := 59) (off := 7) (by decide) (by decide +kernel) (fun hc => ?_) (fun hc => ?_)
  · replace h := h.2 hc
    show G Γ m_FB_liveMonth (d + 1) (0, 0) Q 59 [.ref r0, .long y1, jk, .long v7, jk, .int v4, .int (v6 + (w 1))] [] μ8
    refine run_ok (pc' := 60) [(.iconst 0, 0, 0, 0)] _ _ _ _ (by decide +kernel) ?_
    show G Γ m_FB_liveMonth (d + 1) (0, 0) Q 60 [.ref r0, .long y1, jk, .long v7, jk, .int v4, .int (v6 + (w 1))] [.int (w 0)] μ8
    exact g_wk (ls' := [.ref r0, jk, jk, .long v7, jk, .int v4, .int (v6 + (w 1))]) ⟨Or.inr rfl, Or.inl rfl, Or.inl rfl, Or.inr rfl, Or.inl rfl, Or.inr rfl, Or.inr rfl, trivial⟩ h
  · replace h := h.1 hc
    show G Γ m_FB_liveMonth (d + 1) (0, 0) Q 55 [.ref r0, .long y1, jk, .long v7, jk, .int v4, .int (v6 + (w 1))] [] μ8
    refine run_ok (pc' := 60) [(.iconst 1, 0, 0, 0), (.goto 4, 0, 0, 0)] _ _ _ _ (by decide +kernel) ?_
    show G Γ m_FB_liveMonth (d + 1) (0, 0) Q 60 [.ref r0, .long y1, jk, .long v7, jk, .int v4, .int (v6 + (w 1))] [.int (w 1)] μ8
    exact g_wk (ls' := [.ref r0, jk, jk, .long v7, jk, .int v4, .int (v6 + (w 1))]) ⟨Or.inr rfl, Or.inl rfl, Or.inl rfl, Or.inr rfl, Or.inl rfl, Or.inr rfl, Or.inr rfl, trivial⟩ h
set_option maxRecDepth 100000 in
theorem B_FB_liveMonth_60 {Γ : XG} {d : Nat} {Q : Option Value → XM → Prop} {r0 r0_9 : Nat} {x5 x6 s0 : Int32} {y3 : Int64} {μ : XM} (o_r0_10 : ob μ r0 10) (e_r0_9 : xR μ r0 9 = some r0_9) (o_r0_9_6 : ob μ r0_9 6) (h : Call Γ m_FB_canPut d [.ref r0, .ref r0_9, .int x5, .int x6] μ (KI (fun v1 μ1 => ((v1 = w 0 → Call Γ m_FB_nextDraw d [.long y3] μ1 (KL (fun v2 μ2 => Call Γ m_FB_drawnOf d [.long v2, .int (w 2)] μ2 (KI (fun v3 μ3 => ((v3 = w 0 → xR μ3 r0 9 = some r0_9 ∧ ((w 0 < xI μ3 r0_9 4 → ((w 1 = w 0 → Call Γ m_FB_eatBox d [.ref r0, .int (w 0)] μ3 (KI (fun v26 μ26 => xR μ26 r0 9 = some r0_9 ∧ ∃ a28, xR μ26 r0 1 = some a28 ∧ ob μ26 a28 1 ∧ ∃ a29, xR μ26 a28 0 = some a29 ∧ inb μ26 0 a29 (w 2) ∧ Call Γ m_Pi_passMonth d [.ref r0_9, .int (xI μ26 a29 (w 2).toNatClampNeg)] μ26 (KV (fun μ31 => Q (some (.long v2)) μ31))))) ∧ (¬ w 1 = w 0 → Call Γ m_FB_eatBox d [.ref r0, .int ((xI μ3 r0_9 4) - (w 1))] μ3 (KI (fun v32 μ32 => xR μ32 r0 9 = some r0_9 ∧ ∃ a34, xR μ32 r0 1 = some a34 ∧ ob μ32 a34 1 ∧ ∃ a35, xR μ32 a34 0 = some a35 ∧ inb μ32 0 a35 (w 2) ∧ Call Γ m_Pi_passMonth d [.ref r0_9, .int (xI μ32 a35 (w 2).toNatClampNeg)] μ32 (KV (fun μ37 => Q (some (.long v2)) μ37))))))) ∧ (¬ w 0 < xI μ3 r0_9 4 → ∃ a22, xR μ3 r0 1 = some a22 ∧ ob μ3 a22 1 ∧ ∃ a23, xR μ3 a22 0 = some a23 ∧ inb μ3 0 a23 (w 2) ∧ Call Γ m_Pi_passMonth d [.ref r0_9, .int (xI μ3 a23 (w 2).toNatClampNeg)] μ3 (KV (fun μ25 => Q (some (.long v2)) μ25))))) ∧ (¬ v3 = w 0 → xR μ3 r0 9 = some r0_9 ∧ ((w 0 < xI μ3 r0_9 4 → ((w 0 = w 0 → Call Γ m_FB_eatBox d [.ref r0, .int (w 0)] μ3 (KI (fun v9 μ9 => xR μ9 r0 9 = some r0_9 ∧ ∃ a11, xR μ9 r0 1 = some a11 ∧ ob μ9 a11 1 ∧ ∃ a12, xR μ9 a11 0 = some a12 ∧ inb μ9 0 a12 (w 2) ∧ Call Γ m_Pi_passMonth d [.ref r0_9, .int (xI μ9 a12 (w 2).toNatClampNeg)] μ9 (KV (fun μ14 => Q (some (.long v2)) μ14))))) ∧ (¬ w 0 = w 0 → Call Γ m_FB_eatBox d [.ref r0, .int ((xI μ3 r0_9 4) - (w 1))] μ3 (KI (fun v15 μ15 => xR μ15 r0 9 = some r0_9 ∧ ∃ a17, xR μ15 r0 1 = some a17 ∧ ob μ15 a17 1 ∧ ∃ a18, xR μ15 a17 0 = some a18 ∧ inb μ15 0 a18 (w 2) ∧ Call Γ m_Pi_passMonth d [.ref r0_9, .int (xI μ15 a18 (w 2).toNatClampNeg)] μ15 (KV (fun μ20 => Q (some (.long v2)) μ20))))))) ∧ (¬ w 0 < xI μ3 r0_9 4 → ∃ a5, xR μ3 r0 1 = some a5 ∧ ob μ3 a5 1 ∧ ∃ a6, xR μ3 a5 0 = some a6 ∧ inb μ3 0 a6 (w 2) ∧ Call Γ m_Pi_passMonth d [.ref r0_9, .int (xI μ3 a6 (w 2).toNatClampNeg)] μ3 (KV (fun μ8 => Q (some (.long v2)) μ8))))))))))) ∧ (¬ v1 = w 0 → xR μ1 r0 9 = some r0_9 ∧ ((s0 = w 0 → G Γ m_FB_liveMonth (d + 1) (0, 0) Q 102 [.ref r0, jk, jk, .long y3] [.int (w (-1)), .int (w 0), .int x6, .int x5, .ref r0_9] μ1) ∧ (¬ s0 = w 0 → G Γ m_FB_liveMonth (d + 1) (0, 0) Q 102 [.ref r0, jk, jk, .long y3] [.int (xI μ1 r0_9 5), .int (w 0), .int x6, .int x5, .ref r0_9] μ1))))))) : G Γ m_FB_liveMonth (d + 1) (0, 0) Q 60 [.ref r0, jk, jk, .long y3, jk, .int x5, .int x6] [.int s0] μ := by
  refine run_ok (pc' := 71) [(.istore 7, 0, 0, 0), (.aload_n 0, 0, 0, 0), (.aload_n 0, 0, 0, 0), (.getfield 48, 10, 9, 2), (.iload 5, 0, 0, 0), (.iload 6, 0, 0, 0)] _ _ _ _ (by decide +kernel) ?_
  show _ ∧ (∃ _, _ ∧ (_))
  refine ⟨o_r0_10, r0_9, e_r0_9, ?_⟩
  show G Γ m_FB_liveMonth (d + 1) (0, 0) Q 71 [.ref r0, jk, jk, .long y3, jk, .int x5, .int x6, .int s0] [.int x6, .int x5, .ref r0_9, .ref r0] μ
  refine g_invV (M' := m_FB_canPut) (b1 := 0) (b2 := 0) (As := [.ref r0_9, .int x5, .int x6]) (a := r0) (st := []) lk_10_244 (by decide +kernel) rfl (dk_FB_canPut d) (Nat.le_of_ble_eq_true rfl) (Or.inl ⟨10, o_r0_10, rfl⟩) h ?_
  rintro _ μ1 ⟨v1, rfl, h⟩ hn1
  show G Γ m_FB_liveMonth (d + 1) (0, 0) Q 74 [.ref r0, jk, jk, .long y3, jk, .int x5, .int x6, .int s0] [.int v1] μ1
  refine g_ifz_eq (pc' := 105) (off := 31) (by decide) (by decide +kernel) (fun hc => ?_) (fun hc => ?_)
  · replace h := h.1 hc
    show G Γ m_FB_liveMonth (d + 1) (0, 0) Q 105 [.ref r0, jk, jk, .long y3, jk, .int x5, .int x6, .int s0] [] μ1
    refine run_ok (pc' := 106) [(.lload_n 3, 0, 0, 0)] _ _ _ _ (by decide +kernel) ?_
    show G Γ m_FB_liveMonth (d + 1) (0, 0) Q 106 [.ref r0, jk, jk, .long y3, jk, .int x5, .int x6, .int s0] [.long y3] μ1
    refine g_invS (M' := m_FB_nextDraw) (b1 := 0) (b2 := 0) (As := [.long y3]) (st := []) lk_10_282 (by decide +kernel) rfl (dk_FB_nextDraw d) (Nat.le_of_ble_eq_true rfl) h ?_
    rintro _ μ2 ⟨v2, rfl, h⟩ hn2
    show G Γ m_FB_liveMonth (d + 1) (0, 0) Q 109 [.ref r0, jk, jk, .long y3, jk, .int x5, .int x6, .int s0] [.long v2] μ2
    refine run_ok (pc' := 112) [(.lstore_n 3, 0, 0, 0), (.lload_n 3, 0, 0, 0), (.iconst 2, 0, 0, 0)] _ _ _ _ (by decide +kernel) ?_
    show G Γ m_FB_liveMonth (d + 1) (0, 0) Q 112 [.ref r0, jk, jk, .long v2, jk, .int x5, .int x6, .int s0] [.int (w 2), .long v2] μ2
    refine g_invS (M' := m_FB_drawnOf) (b1 := 0) (b2 := 0) (As := [.long v2, .int (w 2)]) (st := []) lk_10_285 (by decide +kernel) rfl (dk_FB_drawnOf d) (Nat.le_of_ble_eq_true rfl) h ?_
    rintro _ μ3 ⟨v3, rfl, h⟩ hn3
    show G Γ m_FB_liveMonth (d + 1) (0, 0) Q 115 [.ref r0, jk, jk, .long v2, jk, .int x5, .int x6, .int s0] [.int v3] μ3
    refine g_ifz_ne (pc' := 122) (off := 7) (by decide) (by decide +kernel) (fun hc => ?_) (fun hc => ?_)
    · replace h := h.2 hc
      show G Γ m_FB_liveMonth (d + 1) (0, 0) Q 122 [.ref r0, jk, jk, .long v2, jk, .int x5, .int x6, .int s0] [] μ3
      obtain ⟨ea4, h⟩ := h
      refine run_ok (pc' := 132) [(.iconst 0, 0, 0, 0), (.istore 8, 0, 0, 0), (.aload_n 0, 0, 0, 0), (.getfield 48, 10, 9, 2), (.getfield 223, 6, 4, 0)] _ _ _ _ (by decide +kernel) ?_
      show _ ∧ (∃ _, _ ∧ (_ ∧ (_)))
      refine ⟨((((o_r0_10).mono hn1).mono hn2).mono hn3), r0_9, ea4, ((((o_r0_9_6).mono hn1).mono hn2).mono hn3), ?_⟩
      show G Γ m_FB_liveMonth (d + 1) (0, 0) Q 132 [.ref r0, jk, jk, .long v2, jk, .int x5, .int x6, .int s0, .int (w 0)] [.int (xI μ3 r0_9 4)] μ3
      refine g_ifz_le (pc' := 158) (off := 26) (by decide) (by decide +kernel) (fun hc => ?_) (fun hc => ?_)
      · replace h := h.2 hc
        show G Γ m_FB_liveMonth (d + 1) (0, 0) Q 158 [.ref r0, jk, jk, .long v2, jk, .int x5, .int x6, .int s0, .int (w 0)] [] μ3
        obtain ⟨a5, ea5, h⟩ := h
        obtain ⟨o_a5_1, h⟩ := h
        obtain ⟨a6, ea6, h⟩ := h
        obtain ⟨ib7, h⟩ := h
        refine run_ok (pc' := 171) [(.aload_n 0, 0, 0, 0), (.getfield 48, 10, 9, 2), (.aload_n 0, 0, 0, 0), (.getfield 19, 10, 1, 2), (.getfield 166, 1, 0, 2), (.iconst 2, 0, 0, 0), (.iaload, 0, 0, 0)] _ _ _ _ (by decide +kernel) ?_
        show _ ∧ (∃ _, _ ∧ (_ ∧ (∃ _, _ ∧ (_ ∧ (∃ _, _ ∧ (_ ∧ (_)))))))
        refine ⟨((((o_r0_10).mono hn1).mono hn2).mono hn3), r0_9, ea4, ((((o_r0_10).mono hn1).mono hn2).mono hn3), a5, ea5, o_a5_1, a6, ea6, ib7, ?_⟩
        show G Γ m_FB_liveMonth (d + 1) (0, 0) Q 171 [.ref r0, jk, jk, .long v2, jk, .int x5, .int x6, .int s0, .int (w 0)] [.int (xI μ3 a6 (w 2).toNatClampNeg), .ref r0_9] μ3
        refine g_invV (M' := m_Pi_passMonth) (b1 := 0) (b2 := 0) (As := [.int (xI μ3 a6 (w 2).toNatClampNeg)]) (a := r0_9) (st := []) lk_10_260 (by decide +kernel) rfl (dk_Pi_passMonth d) (Nat.le_of_ble_eq_true rfl) (Or.inl ⟨6, ((((o_r0_9_6).mono hn1).mono hn2).mono hn3), rfl⟩) h ?_
        rintro _ μ8 ⟨rfl, h⟩ hn8
        show G Γ m_FB_liveMonth (d + 1) (0, 0) Q 174 [.ref r0, jk, jk, .long v2, jk, .int x5, .int x6, .int s0, .int (w 0)] [] μ8
        refine run_ok (pc' := 175) [(.lload_n 3, 0, 0, 0)] _ _ _ _ (by decide +kernel) ?_
        show G Γ m_FB_liveMonth (d + 1) (0, 0) Q 175 [.ref r0, jk, jk, .long v2, jk, .int x5, .int x6, .int s0, .int (w 0)] [.long v2] μ8
        exact g_retl (by decide +kernel) rfl h
      · replace h := h.1 hc
        show G Γ m_FB_liveMonth (d + 1) (0, 0) Q 135 [.ref r0, jk, jk, .long v2, jk, .int x5, .int x6, .int s0, .int (w 0)] [] μ3
        refine run_ok (pc' := 138) [(.aload_n 0, 0, 0, 0), (.iload 8, 0, 0, 0)] _ _ _ _ (by decide +kernel) ?_
        show G Γ m_FB_liveMonth (d + 1) (0, 0) Q 138 [.ref r0, jk, jk, .long v2, jk, .int x5, .int x6, .int s0, .int (w 0)] [.int (w 0), .ref r0] μ3
        refine g_ifz_eq (pc' := 153) (off := 15) (by decide) (by decide +kernel) (fun hc => ?_) (fun hc => ?_)
        · replace h := h.1 hc
          show G Γ m_FB_liveMonth (d + 1) (0, 0) Q 153 [.ref r0, jk, jk, .long v2, jk, .int x5, .int x6, .int s0, .int (w 0)] [.ref r0] μ3
          refine run_ok (pc' := 154) [(.iconst 0, 0, 0, 0)] _ _ _ _ (by decide +kernel) ?_
          show G Γ m_FB_liveMonth (d + 1) (0, 0) Q 154 [.ref r0, jk, jk, .long v2, jk, .int x5, .int x6, .int s0, .int (w 0)] [.int (w 0), .ref r0] μ3
          refine g_invV (M' := m_FB_eatBox) (b1 := 0) (b2 := 0) (As := [.int (w 0)]) (a := r0) (st := []) lk_10_254 (by decide +kernel) rfl (dk_FB_eatBox d) (Nat.le_of_ble_eq_true rfl) (Or.inl ⟨10, ((((o_r0_10).mono hn1).mono hn2).mono hn3), rfl⟩) h ?_
          rintro _ μ9 ⟨v9, rfl, h⟩ hn9
          show G Γ m_FB_liveMonth (d + 1) (0, 0) Q 157 [.ref r0, jk, jk, .long v2, jk, .int x5, .int x6, .int s0, .int (w 0)] [.int v9] μ9
          obtain ⟨ea10, h⟩ := h
          obtain ⟨a11, ea11, h⟩ := h
          obtain ⟨o_a11_1, h⟩ := h
          obtain ⟨a12, ea12, h⟩ := h
          obtain ⟨ib13, h⟩ := h
          refine run_ok (pc' := 171) [(.pop, 0, 0, 0), (.aload_n 0, 0, 0, 0), (.getfield 48, 10, 9, 2), (.aload_n 0, 0, 0, 0), (.getfield 19, 10, 1, 2), (.getfield 166, 1, 0, 2), (.iconst 2, 0, 0, 0), (.iaload, 0, 0, 0)] _ _ _ _ (by decide +kernel) ?_
          show _ ∧ (∃ _, _ ∧ (_ ∧ (∃ _, _ ∧ (_ ∧ (∃ _, _ ∧ (_ ∧ (_)))))))
          refine ⟨(((((o_r0_10).mono hn1).mono hn2).mono hn3).mono hn9), r0_9, ea10, (((((o_r0_10).mono hn1).mono hn2).mono hn3).mono hn9), a11, ea11, o_a11_1, a12, ea12, ib13, ?_⟩
          show G Γ m_FB_liveMonth (d + 1) (0, 0) Q 171 [.ref r0, jk, jk, .long v2, jk, .int x5, .int x6, .int s0, .int (w 0)] [.int (xI μ9 a12 (w 2).toNatClampNeg), .ref r0_9] μ9
          refine g_invV (M' := m_Pi_passMonth) (b1 := 0) (b2 := 0) (As := [.int (xI μ9 a12 (w 2).toNatClampNeg)]) (a := r0_9) (st := []) lk_10_260 (by decide +kernel) rfl (dk_Pi_passMonth d) (Nat.le_of_ble_eq_true rfl) (Or.inl ⟨6, (((((o_r0_9_6).mono hn1).mono hn2).mono hn3).mono hn9), rfl⟩) h ?_
          rintro _ μ14 ⟨rfl, h⟩ hn14
          show G Γ m_FB_liveMonth (d + 1) (0, 0) Q 174 [.ref r0, jk, jk, .long v2, jk, .int x5, .int x6, .int s0, .int (w 0)] [] μ14
          refine run_ok (pc' := 175) [(.lload_n 3, 0, 0, 0)] _ _ _ _ (by decide +kernel) ?_
          show G Γ m_FB_liveMonth (d + 1) (0, 0) Q 175 [.ref r0, jk, jk, .long v2, jk, .int x5, .int x6, .int s0, .int (w 0)] [.long v2] μ14
          exact g_retl (by decide +kernel) rfl h
        · replace h := h.2 hc
          show G Γ m_FB_liveMonth (d + 1) (0, 0) Q 141 [.ref r0, jk, jk, .long v2, jk, .int x5, .int x6, .int s0, .int (w 0)] [.ref r0] μ3
          refine run_ok (pc' := 154) [(.aload_n 0, 0, 0, 0), (.getfield 48, 10, 9, 2), (.getfield 223, 6, 4, 0), (.iconst 1, 0, 0, 0), (.isub, 0, 0, 0), (.goto 4, 0, 0, 0)] _ _ _ _ (by decide +kernel) ?_
          show _ ∧ (∃ _, _ ∧ (_ ∧ (_)))
          refine ⟨((((o_r0_10).mono hn1).mono hn2).mono hn3), r0_9, ea4, ((((o_r0_9_6).mono hn1).mono hn2).mono hn3), ?_⟩
          show G Γ m_FB_liveMonth (d + 1) (0, 0) Q 154 [.ref r0, jk, jk, .long v2, jk, .int x5, .int x6, .int s0, .int (w 0)] [.int ((xI μ3 r0_9 4) - (w 1)), .ref r0] μ3
          refine g_invV (M' := m_FB_eatBox) (b1 := 0) (b2 := 0) (As := [.int ((xI μ3 r0_9 4) - (w 1))]) (a := r0) (st := []) lk_10_254 (by decide +kernel) rfl (dk_FB_eatBox d) (Nat.le_of_ble_eq_true rfl) (Or.inl ⟨10, ((((o_r0_10).mono hn1).mono hn2).mono hn3), rfl⟩) h ?_
          rintro _ μ15 ⟨v15, rfl, h⟩ hn15
          show G Γ m_FB_liveMonth (d + 1) (0, 0) Q 157 [.ref r0, jk, jk, .long v2, jk, .int x5, .int x6, .int s0, .int (w 0)] [.int v15] μ15
          obtain ⟨ea16, h⟩ := h
          obtain ⟨a17, ea17, h⟩ := h
          obtain ⟨o_a17_1, h⟩ := h
          obtain ⟨a18, ea18, h⟩ := h
          obtain ⟨ib19, h⟩ := h
          refine run_ok (pc' := 171) [(.pop, 0, 0, 0), (.aload_n 0, 0, 0, 0), (.getfield 48, 10, 9, 2), (.aload_n 0, 0, 0, 0), (.getfield 19, 10, 1, 2), (.getfield 166, 1, 0, 2), (.iconst 2, 0, 0, 0), (.iaload, 0, 0, 0)] _ _ _ _ (by decide +kernel) ?_
          show _ ∧ (∃ _, _ ∧ (_ ∧ (∃ _, _ ∧ (_ ∧ (∃ _, _ ∧ (_ ∧ (_)))))))
          refine ⟨(((((o_r0_10).mono hn1).mono hn2).mono hn3).mono hn15), r0_9, ea16, (((((o_r0_10).mono hn1).mono hn2).mono hn3).mono hn15), a17, ea17, o_a17_1, a18, ea18, ib19, ?_⟩
          show G Γ m_FB_liveMonth (d + 1) (0, 0) Q 171 [.ref r0, jk, jk, .long v2, jk, .int x5, .int x6, .int s0, .int (w 0)] [.int (xI μ15 a18 (w 2).toNatClampNeg), .ref r0_9] μ15
          refine g_invV (M' := m_Pi_passMonth) (b1 := 0) (b2 := 0) (As := [.int (xI μ15 a18 (w 2).toNatClampNeg)]) (a := r0_9) (st := []) lk_10_260 (by decide +kernel) rfl (dk_Pi_passMonth d) (Nat.le_of_ble_eq_true rfl) (Or.inl ⟨6, (((((o_r0_9_6).mono hn1).mono hn2).mono hn3).mono hn15), rfl⟩) h ?_
          rintro _ μ20 ⟨rfl, h⟩ hn20
          show G Γ m_FB_liveMonth (d + 1) (0, 0) Q 174 [.ref r0, jk, jk, .long v2, jk, .int x5, .int x6, .int s0, .int (w 0)] [] μ20
          refine run_ok (pc' := 175) [(.lload_n 3, 0, 0, 0)] _ _ _ _ (by decide +kernel) ?_
          show G Γ m_FB_liveMonth (d + 1) (0, 0) Q 175 [.ref r0, jk, jk, .long v2, jk, .int x5, .int x6, .int s0, .int (w 0)] [.long v2] μ20
          exact g_retl (by decide +kernel) rfl h
    · replace h := h.1 hc
      show G Γ m_FB_liveMonth (d + 1) (0, 0) Q 118 [.ref r0, jk, jk, .long v2, jk, .int x5, .int x6, .int s0] [] μ3
      obtain ⟨ea21, h⟩ := h
      refine run_ok (pc' := 132) [(.iconst 1, 0, 0, 0), (.goto 4, 0, 0, 0), (.istore 8, 0, 0, 0), (.aload_n 0, 0, 0, 0), (.getfield 48, 10, 9, 2), (.getfield 223, 6, 4, 0)] _ _ _ _ (by decide +kernel) ?_
      show _ ∧ (∃ _, _ ∧ (_ ∧ (_)))
      refine ⟨((((o_r0_10).mono hn1).mono hn2).mono hn3), r0_9, ea21, ((((o_r0_9_6).mono hn1).mono hn2).mono hn3), ?_⟩
      show G Γ m_FB_liveMonth (d + 1) (0, 0) Q 132 [.ref r0, jk, jk, .long v2, jk, .int x5, .int x6, .int s0, .int (w 1)] [.int (xI μ3 r0_9 4)] μ3
      refine g_ifz_le (pc' := 158) (off := 26) (by decide) (by decide +kernel) (fun hc => ?_) (fun hc => ?_)
      · replace h := h.2 hc
        show G Γ m_FB_liveMonth (d + 1) (0, 0) Q 158 [.ref r0, jk, jk, .long v2, jk, .int x5, .int x6, .int s0, .int (w 1)] [] μ3
        obtain ⟨a22, ea22, h⟩ := h
        obtain ⟨o_a22_1, h⟩ := h
        obtain ⟨a23, ea23, h⟩ := h
        obtain ⟨ib24, h⟩ := h
        refine run_ok (pc' := 171) [(.aload_n 0, 0, 0, 0), (.getfield 48, 10, 9, 2), (.aload_n 0, 0, 0, 0), (.getfield 19, 10, 1, 2), (.getfield 166, 1, 0, 2), (.iconst 2, 0, 0, 0), (.iaload, 0, 0, 0)] _ _ _ _ (by decide +kernel) ?_
        show _ ∧ (∃ _, _ ∧ (_ ∧ (∃ _, _ ∧ (_ ∧ (∃ _, _ ∧ (_ ∧ (_)))))))
        refine ⟨((((o_r0_10).mono hn1).mono hn2).mono hn3), r0_9, ea21, ((((o_r0_10).mono hn1).mono hn2).mono hn3), a22, ea22, o_a22_1, a23, ea23, ib24, ?_⟩
        show G Γ m_FB_liveMonth (d + 1) (0, 0) Q 171 [.ref r0, jk, jk, .long v2, jk, .int x5, .int x6, .int s0, .int (w 1)] [.int (xI μ3 a23 (w 2).toNatClampNeg), .ref r0_9] μ3
        refine g_invV (M' := m_Pi_passMonth) (b1 := 0) (b2 := 0) (As := [.int (xI μ3 a23 (w 2).toNatClampNeg)]) (a := r0_9) (st := []) lk_10_260 (by decide +kernel) rfl (dk_Pi_passMonth d) (Nat.le_of_ble_eq_true rfl) (Or.inl ⟨6, ((((o_r0_9_6).mono hn1).mono hn2).mono hn3), rfl⟩) h ?_
        rintro _ μ25 ⟨rfl, h⟩ hn25
        show G Γ m_FB_liveMonth (d + 1) (0, 0) Q 174 [.ref r0, jk, jk, .long v2, jk, .int x5, .int x6, .int s0, .int (w 1)] [] μ25
        refine run_ok (pc' := 175) [(.lload_n 3, 0, 0, 0)] _ _ _ _ (by decide +kernel) ?_
        show G Γ m_FB_liveMonth (d + 1) (0, 0) Q 175 [.ref r0, jk, jk, .long v2, jk, .int x5, .int x6, .int s0, .int (w 1)] [.long v2] μ25
        exact g_retl (by decide +kernel) rfl h
      · replace h := h.1 hc
        show G Γ m_FB_liveMonth (d + 1) (0, 0) Q 135 [.ref r0, jk, jk, .long v2, jk, .int x5, .int x6, .int s0, .int (w 1)] [] μ3
        refine run_ok (pc' := 138) [(.aload_n 0, 0, 0, 0), (.iload 8, 0, 0, 0)] _ _ _ _ (by decide +kernel) ?_
        show G Γ m_FB_liveMonth (d + 1) (0, 0) Q 138 [.ref r0, jk, jk, .long v2, jk, .int x5, .int x6, .int s0, .int (w 1)] [.int (w 1), .ref r0] μ3
        refine g_ifz_eq (pc' := 153) (off := 15) (by decide) (by decide +kernel) (fun hc => ?_) (fun hc => ?_)
        · replace h := h.1 hc
          show G Γ m_FB_liveMonth (d + 1) (0, 0) Q 153 [.ref r0, jk, jk, .long v2, jk, .int x5, .int x6, .int s0, .int (w 1)] [.ref r0] μ3
          refine run_ok (pc' := 154) [(.iconst 0, 0, 0, 0)] _ _ _ _ (by decide +kernel) ?_
          show G Γ m_FB_liveMonth (d + 1) (0, 0) Q 154 [.ref r0, jk, jk, .long v2, jk, .int x5, .int x6, .int s0, .int (w 1)] [.int (w 0), .ref r0] μ3
          refine g_invV (M' := m_FB_eatBox) (b1 := 0) (b2 := 0) (As := [.int (w 0)]) (a := r0) (st := []) lk_10_254 (by decide +kernel) rfl (dk_FB_eatBox d) (Nat.le_of_ble_eq_true rfl) (Or.inl ⟨10, ((((o_r0_10).mono hn1).mono hn2).mono hn3), rfl⟩) h ?_
          rintro _ μ26 ⟨v26, rfl, h⟩ hn26
          show G Γ m_FB_liveMonth (d + 1) (0, 0) Q 157 [.ref r0, jk, jk, .long v2, jk, .int x5, .int x6, .int s0, .int (w 1)] [.int v26] μ26
          obtain ⟨ea27, h⟩ := h
          obtain ⟨a28, ea28, h⟩ := h
          obtain ⟨o_a28_1, h⟩ := h
          obtain ⟨a29, ea29, h⟩ := h
          obtain ⟨ib30, h⟩ := h
          refine run_ok (pc' := 171) [(.pop, 0, 0, 0), (.aload_n 0, 0, 0, 0), (.getfield 48, 10, 9, 2), (.aload_n 0, 0, 0, 0), (.getfield 19, 10, 1, 2), (.getfield 166, 1, 0, 2), (.iconst 2, 0, 0, 0), (.iaload, 0, 0, 0)] _ _ _ _ (by decide +kernel) ?_
          show _ ∧ (∃ _, _ ∧ (_ ∧ (∃ _, _ ∧ (_ ∧ (∃ _, _ ∧ (_ ∧ (_)))))))
          refine ⟨(((((o_r0_10).mono hn1).mono hn2).mono hn3).mono hn26), r0_9, ea27, (((((o_r0_10).mono hn1).mono hn2).mono hn3).mono hn26), a28, ea28, o_a28_1, a29, ea29, ib30, ?_⟩
          show G Γ m_FB_liveMonth (d + 1) (0, 0) Q 171 [.ref r0, jk, jk, .long v2, jk, .int x5, .int x6, .int s0, .int (w 1)] [.int (xI μ26 a29 (w 2).toNatClampNeg), .ref r0_9] μ26
          refine g_invV (M' := m_Pi_passMonth) (b1 := 0) (b2 := 0) (As := [.int (xI μ26 a29 (w 2).toNatClampNeg)]) (a := r0_9) (st := []) lk_10_260 (by decide +kernel) rfl (dk_Pi_passMonth d) (Nat.le_of_ble_eq_true rfl) (Or.inl ⟨6, (((((o_r0_9_6).mono hn1).mono hn2).mono hn3).mono hn26), rfl⟩) h ?_
          rintro _ μ31 ⟨rfl, h⟩ hn31
          show G Γ m_FB_liveMonth (d + 1) (0, 0) Q 174 [.ref r0, jk, jk, .long v2, jk, .int x5, .int x6, .int s0, .int (w 1)] [] μ31
          refine run_ok (pc' := 175) [(.lload_n 3, 0, 0, 0)] _ _ _ _ (by decide +kernel) ?_
          show G Γ m_FB_liveMonth (d + 1) (0, 0) Q 175 [.ref r0, jk, jk, .long v2, jk, .int x5, .int x6, .int s0, .int (w 1)] [.long v2] μ31
          exact g_retl (by decide +kernel) rfl h
        · replace h := h.2 hc
          show G Γ m_FB_liveMonth (d + 1) (0, 0) Q 141 [.ref r0, jk, jk, .long v2, jk, .int x5, .int x6, .int s0, .int (w 1)] [.ref r0] μ3
          refine run_ok (pc' := 154) [(.aload_n 0, 0, 0, 0), (.getfield 48, 10, 9, 2), (.getfield 223, 6, 4, 0), (.iconst 1, 0, 0, 0), (.isub, 0, 0, 0), (.goto 4, 0, 0, 0)] _ _ _ _ (by decide +kernel) ?_
          show _ ∧ (∃ _, _ ∧ (_ ∧ (_)))
          refine ⟨((((o_r0_10).mono hn1).mono hn2).mono hn3), r0_9, ea21, ((((o_r0_9_6).mono hn1).mono hn2).mono hn3), ?_⟩
          show G Γ m_FB_liveMonth (d + 1) (0, 0) Q 154 [.ref r0, jk, jk, .long v2, jk, .int x5, .int x6, .int s0, .int (w 1)] [.int ((xI μ3 r0_9 4) - (w 1)), .ref r0] μ3
          refine g_invV (M' := m_FB_eatBox) (b1 := 0) (b2 := 0) (As := [.int ((xI μ3 r0_9 4) - (w 1))]) (a := r0) (st := []) lk_10_254 (by decide +kernel) rfl (dk_FB_eatBox d) (Nat.le_of_ble_eq_true rfl) (Or.inl ⟨10, ((((o_r0_10).mono hn1).mono hn2).mono hn3), rfl⟩) h ?_
          rintro _ μ32 ⟨v32, rfl, h⟩ hn32
          show G Γ m_FB_liveMonth (d + 1) (0, 0) Q 157 [.ref r0, jk, jk, .long v2, jk, .int x5, .int x6, .int s0, .int (w 1)] [.int v32] μ32
          obtain ⟨ea33, h⟩ := h
          obtain ⟨a34, ea34, h⟩ := h
          obtain ⟨o_a34_1, h⟩ := h
          obtain ⟨a35, ea35, h⟩ := h
          obtain ⟨ib36, h⟩ := h
          refine run_ok (pc' := 171) [(.pop, 0, 0, 0), (.aload_n 0, 0, 0, 0), (.getfield 48, 10, 9, 2), (.aload_n 0, 0, 0, 0), (.getfield 19, 10, 1, 2), (.getfield 166, 1, 0, 2), (.iconst 2, 0, 0, 0), (.iaload, 0, 0, 0)] _ _ _ _ (by decide +kernel) ?_
          show _ ∧ (∃ _, _ ∧ (_ ∧ (∃ _, _ ∧ (_ ∧ (∃ _, _ ∧ (_ ∧ (_)))))))
          refine ⟨(((((o_r0_10).mono hn1).mono hn2).mono hn3).mono hn32), r0_9, ea33, (((((o_r0_10).mono hn1).mono hn2).mono hn3).mono hn32), a34, ea34, o_a34_1, a35, ea35, ib36, ?_⟩
          show G Γ m_FB_liveMonth (d + 1) (0, 0) Q 171 [.ref r0, jk, jk, .long v2, jk, .int x5, .int x6, .int s0, .int (w 1)] [.int (xI μ32 a35 (w 2).toNatClampNeg), .ref r0_9] μ32
          refine g_invV (M' := m_Pi_passMonth) (b1 := 0) (b2 := 0) (As := [.int (xI μ32 a35 (w 2).toNatClampNeg)]) (a := r0_9) (st := []) lk_10_260 (by decide +kernel) rfl (dk_Pi_passMonth d) (Nat.le_of_ble_eq_true rfl) (Or.inl ⟨6, (((((o_r0_9_6).mono hn1).mono hn2).mono hn3).mono hn32), rfl⟩) h ?_
          rintro _ μ37 ⟨rfl, h⟩ hn37
          show G Γ m_FB_liveMonth (d + 1) (0, 0) Q 174 [.ref r0, jk, jk, .long v2, jk, .int x5, .int x6, .int s0, .int (w 1)] [] μ37
          refine run_ok (pc' := 175) [(.lload_n 3, 0, 0, 0)] _ _ _ _ (by decide +kernel) ?_
          show G Γ m_FB_liveMonth (d + 1) (0, 0) Q 175 [.ref r0, jk, jk, .long v2, jk, .int x5, .int x6, .int s0, .int (w 1)] [.long v2] μ37
          exact g_retl (by decide +kernel) rfl h
  · replace h := h.2 hc
    show G Γ m_FB_liveMonth (d + 1) (0, 0) Q 77 [.ref r0, jk, jk, .long y3, jk, .int x5, .int x6, .int s0] [] μ1
    obtain ⟨ea38, h⟩ := h
    refine run_ok (pc' := 88) [(.aload_n 0, 0, 0, 0), (.getfield 48, 10, 9, 2), (.iload 5, 0, 0, 0), (.iload 6, 0, 0, 0), (.iconst 0, 0, 0, 0), (.iload 7, 0, 0, 0)] _ _ _ _ (by decide +kernel) ?_
    show _ ∧ (∃ _, _ ∧ (_))
    refine ⟨((o_r0_10).mono hn1), r0_9, ea38, ?_⟩
    show G Γ m_FB_liveMonth (d + 1) (0, 0) Q 88 [.ref r0, jk, jk, .long y3, jk, .int x5, .int x6, .int s0] [.int s0, .int (w 0), .int x6, .int x5, .ref r0_9] μ1
    refine g_ifz_eq (pc' := 101) (off := 13) (by decide) (by decide +kernel) (fun hc => ?_) (fun hc => ?_)
    · replace h := h.1 hc
      show G Γ m_FB_liveMonth (d + 1) (0, 0) Q 101 [.ref r0, jk, jk, .long y3, jk, .int x5, .int x6, .int s0] [.int (w 0), .int x6, .int x5, .ref r0_9] μ1
      refine run_ok (pc' := 102) [(.iconst (-1), 0, 0, 0)] _ _ _ _ (by decide +kernel) ?_
      show G Γ m_FB_liveMonth (d + 1) (0, 0) Q 102 [.ref r0, jk, jk, .long y3, jk, .int x5, .int x6, .int s0] [.int (w (-1)), .int (w 0), .int x6, .int x5, .ref r0_9] μ1
      exact g_wk (ls' := [.ref r0, jk, jk, .long y3]) ⟨Or.inr rfl, Or.inl rfl, Or.inl rfl, Or.inr rfl, trivial⟩ h
    · replace h := h.2 hc
      show G Γ m_FB_liveMonth (d + 1) (0, 0) Q 91 [.ref r0, jk, jk, .long y3, jk, .int x5, .int x6, .int s0] [.int (w 0), .int x6, .int x5, .ref r0_9] μ1
      refine run_ok (pc' := 102) [(.aload_n 0, 0, 0, 0), (.getfield 48, 10, 9, 2), (.getfield 209, 6, 5, 0), (.goto 4, 0, 0, 0)] _ _ _ _ (by decide +kernel) ?_
      show _ ∧ (∃ _, _ ∧ (_ ∧ (_)))
      refine ⟨((o_r0_10).mono hn1), r0_9, ea38, ((o_r0_9_6).mono hn1), ?_⟩
      show G Γ m_FB_liveMonth (d + 1) (0, 0) Q 102 [.ref r0, jk, jk, .long y3, jk, .int x5, .int x6, .int s0] [.int (xI μ1 r0_9 5), .int (w 0), .int x6, .int x5, .ref r0_9] μ1
      exact g_wk (ls' := [.ref r0, jk, jk, .long y3]) ⟨Or.inr rfl, Or.inl rfl, Or.inl rfl, Or.inr rfl, trivial⟩ h
set_option maxRecDepth 100000 in
theorem B_FB_liveMonth_102 {Γ : XG} {d : Nat} {Q : Option Value → XM → Prop} {r0 q0 : Nat} {s1 s2 s3 s4 : Int32} {y3 : Int64} {μ : XM} (o_q0_6 : ob μ q0 6) (o_r0_10 : ob μ r0 10) (h : Call Γ m_Pi_push d [.ref q0, .int s1, .int s2, .int s3, .int s4] μ (KV (fun μ1 => Call Γ m_FB_nextDraw d [.long y3] μ1 (KL (fun v2 μ2 => Call Γ m_FB_drawnOf d [.long v2, .int (w 2)] μ2 (KI (fun v3 μ3 => ((v3 = w 0 → ∃ a21, xR μ3 r0 9 = some a21 ∧ ob μ3 a21 6 ∧ ((w 0 < xI μ3 a21 4 → ((w 1 = w 0 → Call Γ m_FB_eatBox d [.ref r0, .int (w 0)] μ3 (KI (fun v26 μ26 => xR μ26 r0 9 = some a21 ∧ ∃ a28, xR μ26 r0 1 = some a28 ∧ ob μ26 a28 1 ∧ ∃ a29, xR μ26 a28 0 = some a29 ∧ inb μ26 0 a29 (w 2) ∧ Call Γ m_Pi_passMonth d [.ref a21, .int (xI μ26 a29 (w 2).toNatClampNeg)] μ26 (KV (fun μ31 => Q (some (.long v2)) μ31))))) ∧ (¬ w 1 = w 0 → Call Γ m_FB_eatBox d [.ref r0, .int ((xI μ3 a21 4) - (w 1))] μ3 (KI (fun v32 μ32 => xR μ32 r0 9 = some a21 ∧ ∃ a34, xR μ32 r0 1 = some a34 ∧ ob μ32 a34 1 ∧ ∃ a35, xR μ32 a34 0 = some a35 ∧ inb μ32 0 a35 (w 2) ∧ Call Γ m_Pi_passMonth d [.ref a21, .int (xI μ32 a35 (w 2).toNatClampNeg)] μ32 (KV (fun μ37 => Q (some (.long v2)) μ37))))))) ∧ (¬ w 0 < xI μ3 a21 4 → ∃ a22, xR μ3 r0 1 = some a22 ∧ ob μ3 a22 1 ∧ ∃ a23, xR μ3 a22 0 = some a23 ∧ inb μ3 0 a23 (w 2) ∧ Call Γ m_Pi_passMonth d [.ref a21, .int (xI μ3 a23 (w 2).toNatClampNeg)] μ3 (KV (fun μ25 => Q (some (.long v2)) μ25))))) ∧ (¬ v3 = w 0 → ∃ a4, xR μ3 r0 9 = some a4 ∧ ob μ3 a4 6 ∧ ((w 0 < xI μ3 a4 4 → ((w 0 = w 0 → Call Γ m_FB_eatBox d [.ref r0, .int (w 0)] μ3 (KI (fun v9 μ9 => xR μ9 r0 9 = some a4 ∧ ∃ a11, xR μ9 r0 1 = some a11 ∧ ob μ9 a11 1 ∧ ∃ a12, xR μ9 a11 0 = some a12 ∧ inb μ9 0 a12 (w 2) ∧ Call Γ m_Pi_passMonth d [.ref a4, .int (xI μ9 a12 (w 2).toNatClampNeg)] μ9 (KV (fun μ14 => Q (some (.long v2)) μ14))))) ∧ (¬ w 0 = w 0 → Call Γ m_FB_eatBox d [.ref r0, .int ((xI μ3 a4 4) - (w 1))] μ3 (KI (fun v15 μ15 => xR μ15 r0 9 = some a4 ∧ ∃ a17, xR μ15 r0 1 = some a17 ∧ ob μ15 a17 1 ∧ ∃ a18, xR μ15 a17 0 = some a18 ∧ inb μ15 0 a18 (w 2) ∧ Call Γ m_Pi_passMonth d [.ref a4, .int (xI μ15 a18 (w 2).toNatClampNeg)] μ15 (KV (fun μ20 => Q (some (.long v2)) μ20))))))) ∧ (¬ w 0 < xI μ3 a4 4 → ∃ a5, xR μ3 r0 1 = some a5 ∧ ob μ3 a5 1 ∧ ∃ a6, xR μ3 a5 0 = some a6 ∧ inb μ3 0 a6 (w 2) ∧ Call Γ m_Pi_passMonth d [.ref a4, .int (xI μ3 a6 (w 2).toNatClampNeg)] μ3 (KV (fun μ8 => Q (some (.long v2)) μ8))))))))))))) : G Γ m_FB_liveMonth (d + 1) (0, 0) Q 102 [.ref r0, jk, jk, .long y3] [.int s4, .int s3, .int s2, .int s1, .ref q0] μ := by
  refine g_invV (M' := m_Pi_push) (b1 := 0) (b2 := 0) (As := [.int s1, .int s2, .int s3, .int s4]) (a := q0) (st := []) lk_10_251 (by decide +kernel) rfl (dk_Pi_push d) (Nat.le_of_ble_eq_true rfl) (Or.inl ⟨6, o_q0_6, rfl⟩) h ?_
  rintro _ μ1 ⟨rfl, h⟩ hn1
  show G Γ m_FB_liveMonth (d + 1) (0, 0) Q 105 [.ref r0, jk, jk, .long y3] [] μ1
  refine run_ok (pc' := 106) [(.lload_n 3, 0, 0, 0)] _ _ _ _ (by decide +kernel) ?_
  show G Γ m_FB_liveMonth (d + 1) (0, 0) Q 106 [.ref r0, jk, jk, .long y3] [.long y3] μ1
  refine g_invS (M' := m_FB_nextDraw) (b1 := 0) (b2 := 0) (As := [.long y3]) (st := []) lk_10_282 (by decide +kernel) rfl (dk_FB_nextDraw d) (Nat.le_of_ble_eq_true rfl) h ?_
  rintro _ μ2 ⟨v2, rfl, h⟩ hn2
  show G Γ m_FB_liveMonth (d + 1) (0, 0) Q 109 [.ref r0, jk, jk, .long y3] [.long v2] μ2
  refine run_ok (pc' := 112) [(.lstore_n 3, 0, 0, 0), (.lload_n 3, 0, 0, 0), (.iconst 2, 0, 0, 0)] _ _ _ _ (by decide +kernel) ?_
  show G Γ m_FB_liveMonth (d + 1) (0, 0) Q 112 [.ref r0, jk, jk, .long v2, jk] [.int (w 2), .long v2] μ2
  refine g_invS (M' := m_FB_drawnOf) (b1 := 0) (b2 := 0) (As := [.long v2, .int (w 2)]) (st := []) lk_10_285 (by decide +kernel) rfl (dk_FB_drawnOf d) (Nat.le_of_ble_eq_true rfl) h ?_
  rintro _ μ3 ⟨v3, rfl, h⟩ hn3
  show G Γ m_FB_liveMonth (d + 1) (0, 0) Q 115 [.ref r0, jk, jk, .long v2, jk] [.int v3] μ3
  refine g_ifz_ne (pc' := 122) (off := 7) (by decide) (by decide +kernel) (fun hc => ?_) (fun hc => ?_)
  · replace h := h.2 hc
    show G Γ m_FB_liveMonth (d + 1) (0, 0) Q 122 [.ref r0, jk, jk, .long v2, jk] [] μ3
    obtain ⟨a4, ea4, h⟩ := h
    obtain ⟨o_a4_6, h⟩ := h
    refine run_ok (pc' := 132) [(.iconst 0, 0, 0, 0), (.istore 8, 0, 0, 0), (.aload_n 0, 0, 0, 0), (.getfield 48, 10, 9, 2), (.getfield 223, 6, 4, 0)] _ _ _ _ (by decide +kernel) ?_
    show _ ∧ (∃ _, _ ∧ (_ ∧ (_)))
    refine ⟨((((o_r0_10).mono hn1).mono hn2).mono hn3), a4, ea4, o_a4_6, ?_⟩
    show G Γ m_FB_liveMonth (d + 1) (0, 0) Q 132 [.ref r0, jk, jk, .long v2, jk, jk, jk, jk, .int (w 0)] [.int (xI μ3 a4 4)] μ3
    refine g_ifz_le (pc' := 158) (off := 26) (by decide) (by decide +kernel) (fun hc => ?_) (fun hc => ?_)
    · replace h := h.2 hc
      show G Γ m_FB_liveMonth (d + 1) (0, 0) Q 158 [.ref r0, jk, jk, .long v2, jk, jk, jk, jk, .int (w 0)] [] μ3
      obtain ⟨a5, ea5, h⟩ := h
      obtain ⟨o_a5_1, h⟩ := h
      obtain ⟨a6, ea6, h⟩ := h
      obtain ⟨ib7, h⟩ := h
      refine run_ok (pc' := 171) [(.aload_n 0, 0, 0, 0), (.getfield 48, 10, 9, 2), (.aload_n 0, 0, 0, 0), (.getfield 19, 10, 1, 2), (.getfield 166, 1, 0, 2), (.iconst 2, 0, 0, 0), (.iaload, 0, 0, 0)] _ _ _ _ (by decide +kernel) ?_
      show _ ∧ (∃ _, _ ∧ (_ ∧ (∃ _, _ ∧ (_ ∧ (∃ _, _ ∧ (_ ∧ (_)))))))
      refine ⟨((((o_r0_10).mono hn1).mono hn2).mono hn3), a4, ea4, ((((o_r0_10).mono hn1).mono hn2).mono hn3), a5, ea5, o_a5_1, a6, ea6, ib7, ?_⟩
      show G Γ m_FB_liveMonth (d + 1) (0, 0) Q 171 [.ref r0, jk, jk, .long v2, jk, jk, jk, jk, .int (w 0)] [.int (xI μ3 a6 (w 2).toNatClampNeg), .ref a4] μ3
      refine g_invV (M' := m_Pi_passMonth) (b1 := 0) (b2 := 0) (As := [.int (xI μ3 a6 (w 2).toNatClampNeg)]) (a := a4) (st := []) lk_10_260 (by decide +kernel) rfl (dk_Pi_passMonth d) (Nat.le_of_ble_eq_true rfl) (Or.inl ⟨6, o_a4_6, rfl⟩) h ?_
      rintro _ μ8 ⟨rfl, h⟩ hn8
      show G Γ m_FB_liveMonth (d + 1) (0, 0) Q 174 [.ref r0, jk, jk, .long v2, jk, jk, jk, jk, .int (w 0)] [] μ8
      refine run_ok (pc' := 175) [(.lload_n 3, 0, 0, 0)] _ _ _ _ (by decide +kernel) ?_
      show G Γ m_FB_liveMonth (d + 1) (0, 0) Q 175 [.ref r0, jk, jk, .long v2, jk, jk, jk, jk, .int (w 0)] [.long v2] μ8
      exact g_retl (by decide +kernel) rfl h
    · replace h := h.1 hc
      show G Γ m_FB_liveMonth (d + 1) (0, 0) Q 135 [.ref r0, jk, jk, .long v2, jk, jk, jk, jk, .int (w 0)] [] μ3
      refine run_ok (pc' := 138) [(.aload_n 0, 0, 0, 0), (.iload 8, 0, 0, 0)] _ _ _ _ (by decide +kernel) ?_
      show G Γ m_FB_liveMonth (d + 1) (0, 0) Q 138 [.ref r0, jk, jk, .long v2, jk, jk, jk, jk, .int (w 0)] [.int (w 0), .ref r0] μ3
      refine g_ifz_eq (pc' := 153) (off := 15) (by decide) (by decide +kernel) (fun hc => ?_) (fun hc => ?_)
      · replace h := h.1 hc
        show G Γ m_FB_liveMonth (d + 1) (0, 0) Q 153 [.ref r0, jk, jk, .long v2, jk, jk, jk, jk, .int (w 0)] [.ref r0] μ3
        refine run_ok (pc' := 154) [(.iconst 0, 0, 0, 0)] _ _ _ _ (by decide +kernel) ?_
        show G Γ m_FB_liveMonth (d + 1) (0, 0) Q 154 [.ref r0, jk, jk, .long v2, jk, jk, jk, jk, .int (w 0)] [.int (w 0), .ref r0] μ3
        refine g_invV (M' := m_FB_eatBox) (b1 := 0) (b2 := 0) (As := [.int (w 0)]) (a := r0) (st := []) lk_10_254 (by decide +kernel) rfl (dk_FB_eatBox d) (Nat.le_of_ble_eq_true rfl) (Or.inl ⟨10, ((((o_r0_10).mono hn1).mono hn2).mono hn3), rfl⟩) h ?_
        rintro _ μ9 ⟨v9, rfl, h⟩ hn9
        show G Γ m_FB_liveMonth (d + 1) (0, 0) Q 157 [.ref r0, jk, jk, .long v2, jk, jk, jk, jk, .int (w 0)] [.int v9] μ9
        obtain ⟨ea10, h⟩ := h
        obtain ⟨a11, ea11, h⟩ := h
        obtain ⟨o_a11_1, h⟩ := h
        obtain ⟨a12, ea12, h⟩ := h
        obtain ⟨ib13, h⟩ := h
        refine run_ok (pc' := 171) [(.pop, 0, 0, 0), (.aload_n 0, 0, 0, 0), (.getfield 48, 10, 9, 2), (.aload_n 0, 0, 0, 0), (.getfield 19, 10, 1, 2), (.getfield 166, 1, 0, 2), (.iconst 2, 0, 0, 0), (.iaload, 0, 0, 0)] _ _ _ _ (by decide +kernel) ?_
        show _ ∧ (∃ _, _ ∧ (_ ∧ (∃ _, _ ∧ (_ ∧ (∃ _, _ ∧ (_ ∧ (_)))))))
        refine ⟨(((((o_r0_10).mono hn1).mono hn2).mono hn3).mono hn9), a4, ea10, (((((o_r0_10).mono hn1).mono hn2).mono hn3).mono hn9), a11, ea11, o_a11_1, a12, ea12, ib13, ?_⟩
        show G Γ m_FB_liveMonth (d + 1) (0, 0) Q 171 [.ref r0, jk, jk, .long v2, jk, jk, jk, jk, .int (w 0)] [.int (xI μ9 a12 (w 2).toNatClampNeg), .ref a4] μ9
        refine g_invV (M' := m_Pi_passMonth) (b1 := 0) (b2 := 0) (As := [.int (xI μ9 a12 (w 2).toNatClampNeg)]) (a := a4) (st := []) lk_10_260 (by decide +kernel) rfl (dk_Pi_passMonth d) (Nat.le_of_ble_eq_true rfl) (Or.inl ⟨6, ((o_a4_6).mono hn9), rfl⟩) h ?_
        rintro _ μ14 ⟨rfl, h⟩ hn14
        show G Γ m_FB_liveMonth (d + 1) (0, 0) Q 174 [.ref r0, jk, jk, .long v2, jk, jk, jk, jk, .int (w 0)] [] μ14
        refine run_ok (pc' := 175) [(.lload_n 3, 0, 0, 0)] _ _ _ _ (by decide +kernel) ?_
        show G Γ m_FB_liveMonth (d + 1) (0, 0) Q 175 [.ref r0, jk, jk, .long v2, jk, jk, jk, jk, .int (w 0)] [.long v2] μ14
        exact g_retl (by decide +kernel) rfl h
      · replace h := h.2 hc
        show G Γ m_FB_liveMonth (d + 1) (0, 0) Q 141 [.ref r0, jk, jk, .long v2, jk, jk, jk, jk, .int (w 0)] [.ref r0] μ3
        refine run_ok (pc' := 154) [(.aload_n 0, 0, 0, 0), (.getfield 48, 10, 9, 2), (.getfield 223, 6, 4, 0), (.iconst 1, 0, 0, 0), (.isub, 0, 0, 0), (.goto 4, 0, 0, 0)] _ _ _ _ (by decide +kernel) ?_
        show _ ∧ (∃ _, _ ∧ (_ ∧ (_)))
        refine ⟨((((o_r0_10).mono hn1).mono hn2).mono hn3), a4, ea4, o_a4_6, ?_⟩
        show G Γ m_FB_liveMonth (d + 1) (0, 0) Q 154 [.ref r0, jk, jk, .long v2, jk, jk, jk, jk, .int (w 0)] [.int ((xI μ3 a4 4) - (w 1)), .ref r0] μ3
        refine g_invV (M' := m_FB_eatBox) (b1 := 0) (b2 := 0) (As := [.int ((xI μ3 a4 4) - (w 1))]) (a := r0) (st := []) lk_10_254 (by decide +kernel) rfl (dk_FB_eatBox d) (Nat.le_of_ble_eq_true rfl) (Or.inl ⟨10, ((((o_r0_10).mono hn1).mono hn2).mono hn3), rfl⟩) h ?_
        rintro _ μ15 ⟨v15, rfl, h⟩ hn15
        show G Γ m_FB_liveMonth (d + 1) (0, 0) Q 157 [.ref r0, jk, jk, .long v2, jk, jk, jk, jk, .int (w 0)] [.int v15] μ15
        obtain ⟨ea16, h⟩ := h
        obtain ⟨a17, ea17, h⟩ := h
        obtain ⟨o_a17_1, h⟩ := h
        obtain ⟨a18, ea18, h⟩ := h
        obtain ⟨ib19, h⟩ := h
        refine run_ok (pc' := 171) [(.pop, 0, 0, 0), (.aload_n 0, 0, 0, 0), (.getfield 48, 10, 9, 2), (.aload_n 0, 0, 0, 0), (.getfield 19, 10, 1, 2), (.getfield 166, 1, 0, 2), (.iconst 2, 0, 0, 0), (.iaload, 0, 0, 0)] _ _ _ _ (by decide +kernel) ?_
        show _ ∧ (∃ _, _ ∧ (_ ∧ (∃ _, _ ∧ (_ ∧ (∃ _, _ ∧ (_ ∧ (_)))))))
        refine ⟨(((((o_r0_10).mono hn1).mono hn2).mono hn3).mono hn15), a4, ea16, (((((o_r0_10).mono hn1).mono hn2).mono hn3).mono hn15), a17, ea17, o_a17_1, a18, ea18, ib19, ?_⟩
        show G Γ m_FB_liveMonth (d + 1) (0, 0) Q 171 [.ref r0, jk, jk, .long v2, jk, jk, jk, jk, .int (w 0)] [.int (xI μ15 a18 (w 2).toNatClampNeg), .ref a4] μ15
        refine g_invV (M' := m_Pi_passMonth) (b1 := 0) (b2 := 0) (As := [.int (xI μ15 a18 (w 2).toNatClampNeg)]) (a := a4) (st := []) lk_10_260 (by decide +kernel) rfl (dk_Pi_passMonth d) (Nat.le_of_ble_eq_true rfl) (Or.inl ⟨6, ((o_a4_6).mono hn15), rfl⟩) h ?_
        rintro _ μ20 ⟨rfl, h⟩ hn20
        show G Γ m_FB_liveMonth (d + 1) (0, 0) Q 174 [.ref r0, jk, jk, .long v2, jk, jk, jk, jk, .int (w 0)] [] μ20
        refine run_ok (pc' := 175) [(.lload_n 3, 0, 0, 0)] _ _ _ _ (by decide +kernel) ?_
        show G Γ m_FB_liveMonth (d + 1) (0, 0) Q 175 [.ref r0, jk, jk, .long v2, jk, jk, jk, jk, .int (w 0)] [.long v2] μ20
        exact g_retl (by decide +kernel) rfl h
  · replace h := h.1 hc
    show G Γ m_FB_liveMonth (d + 1) (0, 0) Q 118 [.ref r0, jk, jk, .long v2, jk] [] μ3
    obtain ⟨a21, ea21, h⟩ := h
    obtain ⟨o_a21_6, h⟩ := h
    refine run_ok (pc' := 132) [(.iconst 1, 0, 0, 0), (.goto 4, 0, 0, 0), (.istore 8, 0, 0, 0), (.aload_n 0, 0, 0, 0), (.getfield 48, 10, 9, 2), (.getfield 223, 6, 4, 0)] _ _ _ _ (by decide +kernel) ?_
    show _ ∧ (∃ _, _ ∧ (_ ∧ (_)))
    refine ⟨((((o_r0_10).mono hn1).mono hn2).mono hn3), a21, ea21, o_a21_6, ?_⟩
    show G Γ m_FB_liveMonth (d + 1) (0, 0) Q 132 [.ref r0, jk, jk, .long v2, jk, jk, jk, jk, .int (w 1)] [.int (xI μ3 a21 4)] μ3
    refine g_ifz_le (pc' := 158) (off := 26) (by decide) (by decide +kernel) (fun hc => ?_) (fun hc => ?_)
    · replace h := h.2 hc
      show G Γ m_FB_liveMonth (d + 1) (0, 0) Q 158 [.ref r0, jk, jk, .long v2, jk, jk, jk, jk, .int (w 1)] [] μ3
      obtain ⟨a22, ea22, h⟩ := h
      obtain ⟨o_a22_1, h⟩ := h
      obtain ⟨a23, ea23, h⟩ := h
      obtain ⟨ib24, h⟩ := h
      refine run_ok (pc' := 171) [(.aload_n 0, 0, 0, 0), (.getfield 48, 10, 9, 2), (.aload_n 0, 0, 0, 0), (.getfield 19, 10, 1, 2), (.getfield 166, 1, 0, 2), (.iconst 2, 0, 0, 0), (.iaload, 0, 0, 0)] _ _ _ _ (by decide +kernel) ?_
      show _ ∧ (∃ _, _ ∧ (_ ∧ (∃ _, _ ∧ (_ ∧ (∃ _, _ ∧ (_ ∧ (_)))))))
      refine ⟨((((o_r0_10).mono hn1).mono hn2).mono hn3), a21, ea21, ((((o_r0_10).mono hn1).mono hn2).mono hn3), a22, ea22, o_a22_1, a23, ea23, ib24, ?_⟩
      show G Γ m_FB_liveMonth (d + 1) (0, 0) Q 171 [.ref r0, jk, jk, .long v2, jk, jk, jk, jk, .int (w 1)] [.int (xI μ3 a23 (w 2).toNatClampNeg), .ref a21] μ3
      refine g_invV (M' := m_Pi_passMonth) (b1 := 0) (b2 := 0) (As := [.int (xI μ3 a23 (w 2).toNatClampNeg)]) (a := a21) (st := []) lk_10_260 (by decide +kernel) rfl (dk_Pi_passMonth d) (Nat.le_of_ble_eq_true rfl) (Or.inl ⟨6, o_a21_6, rfl⟩) h ?_
      rintro _ μ25 ⟨rfl, h⟩ hn25
      show G Γ m_FB_liveMonth (d + 1) (0, 0) Q 174 [.ref r0, jk, jk, .long v2, jk, jk, jk, jk, .int (w 1)] [] μ25
      refine run_ok (pc' := 175) [(.lload_n 3, 0, 0, 0)] _ _ _ _ (by decide +kernel) ?_
      show G Γ m_FB_liveMonth (d + 1) (0, 0) Q 175 [.ref r0, jk, jk, .long v2, jk, jk, jk, jk, .int (w 1)] [.long v2] μ25
      exact g_retl (by decide +kernel) rfl h
    · replace h := h.1 hc
      show G Γ m_FB_liveMonth (d + 1) (0, 0) Q 135 [.ref r0, jk, jk, .long v2, jk, jk, jk, jk, .int (w 1)] [] μ3
      refine run_ok (pc' := 138) [(.aload_n 0, 0, 0, 0), (.iload 8, 0, 0, 0)] _ _ _ _ (by decide +kernel) ?_
      show G Γ m_FB_liveMonth (d + 1) (0, 0) Q 138 [.ref r0, jk, jk, .long v2, jk, jk, jk, jk, .int (w 1)] [.int (w 1), .ref r0] μ3
      refine g_ifz_eq (pc' := 153) (off := 15) (by decide) (by decide +kernel) (fun hc => ?_) (fun hc => ?_)
      · replace h := h.1 hc
        show G Γ m_FB_liveMonth (d + 1) (0, 0) Q 153 [.ref r0, jk, jk, .long v2, jk, jk, jk, jk, .int (w 1)] [.ref r0] μ3
        refine run_ok (pc' := 154) [(.iconst 0, 0, 0, 0)] _ _ _ _ (by decide +kernel) ?_
        show G Γ m_FB_liveMonth (d + 1) (0, 0) Q 154 [.ref r0, jk, jk, .long v2, jk, jk, jk, jk, .int (w 1)] [.int (w 0), .ref r0] μ3
        refine g_invV (M' := m_FB_eatBox) (b1 := 0) (b2 := 0) (As := [.int (w 0)]) (a := r0) (st := []) lk_10_254 (by decide +kernel) rfl (dk_FB_eatBox d) (Nat.le_of_ble_eq_true rfl) (Or.inl ⟨10, ((((o_r0_10).mono hn1).mono hn2).mono hn3), rfl⟩) h ?_
        rintro _ μ26 ⟨v26, rfl, h⟩ hn26
        show G Γ m_FB_liveMonth (d + 1) (0, 0) Q 157 [.ref r0, jk, jk, .long v2, jk, jk, jk, jk, .int (w 1)] [.int v26] μ26
        obtain ⟨ea27, h⟩ := h
        obtain ⟨a28, ea28, h⟩ := h
        obtain ⟨o_a28_1, h⟩ := h
        obtain ⟨a29, ea29, h⟩ := h
        obtain ⟨ib30, h⟩ := h
        refine run_ok (pc' := 171) [(.pop, 0, 0, 0), (.aload_n 0, 0, 0, 0), (.getfield 48, 10, 9, 2), (.aload_n 0, 0, 0, 0), (.getfield 19, 10, 1, 2), (.getfield 166, 1, 0, 2), (.iconst 2, 0, 0, 0), (.iaload, 0, 0, 0)] _ _ _ _ (by decide +kernel) ?_
        show _ ∧ (∃ _, _ ∧ (_ ∧ (∃ _, _ ∧ (_ ∧ (∃ _, _ ∧ (_ ∧ (_)))))))
        refine ⟨(((((o_r0_10).mono hn1).mono hn2).mono hn3).mono hn26), a21, ea27, (((((o_r0_10).mono hn1).mono hn2).mono hn3).mono hn26), a28, ea28, o_a28_1, a29, ea29, ib30, ?_⟩
        show G Γ m_FB_liveMonth (d + 1) (0, 0) Q 171 [.ref r0, jk, jk, .long v2, jk, jk, jk, jk, .int (w 1)] [.int (xI μ26 a29 (w 2).toNatClampNeg), .ref a21] μ26
        refine g_invV (M' := m_Pi_passMonth) (b1 := 0) (b2 := 0) (As := [.int (xI μ26 a29 (w 2).toNatClampNeg)]) (a := a21) (st := []) lk_10_260 (by decide +kernel) rfl (dk_Pi_passMonth d) (Nat.le_of_ble_eq_true rfl) (Or.inl ⟨6, ((o_a21_6).mono hn26), rfl⟩) h ?_
        rintro _ μ31 ⟨rfl, h⟩ hn31
        show G Γ m_FB_liveMonth (d + 1) (0, 0) Q 174 [.ref r0, jk, jk, .long v2, jk, jk, jk, jk, .int (w 1)] [] μ31
        refine run_ok (pc' := 175) [(.lload_n 3, 0, 0, 0)] _ _ _ _ (by decide +kernel) ?_
        show G Γ m_FB_liveMonth (d + 1) (0, 0) Q 175 [.ref r0, jk, jk, .long v2, jk, jk, jk, jk, .int (w 1)] [.long v2] μ31
        exact g_retl (by decide +kernel) rfl h
      · replace h := h.2 hc
        show G Γ m_FB_liveMonth (d + 1) (0, 0) Q 141 [.ref r0, jk, jk, .long v2, jk, jk, jk, jk, .int (w 1)] [.ref r0] μ3
        refine run_ok (pc' := 154) [(.aload_n 0, 0, 0, 0), (.getfield 48, 10, 9, 2), (.getfield 223, 6, 4, 0), (.iconst 1, 0, 0, 0), (.isub, 0, 0, 0), (.goto 4, 0, 0, 0)] _ _ _ _ (by decide +kernel) ?_
        show _ ∧ (∃ _, _ ∧ (_ ∧ (_)))
        refine ⟨((((o_r0_10).mono hn1).mono hn2).mono hn3), a21, ea21, o_a21_6, ?_⟩
        show G Γ m_FB_liveMonth (d + 1) (0, 0) Q 154 [.ref r0, jk, jk, .long v2, jk, jk, jk, jk, .int (w 1)] [.int ((xI μ3 a21 4) - (w 1)), .ref r0] μ3
        refine g_invV (M' := m_FB_eatBox) (b1 := 0) (b2 := 0) (As := [.int ((xI μ3 a21 4) - (w 1))]) (a := r0) (st := []) lk_10_254 (by decide +kernel) rfl (dk_FB_eatBox d) (Nat.le_of_ble_eq_true rfl) (Or.inl ⟨10, ((((o_r0_10).mono hn1).mono hn2).mono hn3), rfl⟩) h ?_
        rintro _ μ32 ⟨v32, rfl, h⟩ hn32
        show G Γ m_FB_liveMonth (d + 1) (0, 0) Q 157 [.ref r0, jk, jk, .long v2, jk, jk, jk, jk, .int (w 1)] [.int v32] μ32
        obtain ⟨ea33, h⟩ := h
        obtain ⟨a34, ea34, h⟩ := h
        obtain ⟨o_a34_1, h⟩ := h
        obtain ⟨a35, ea35, h⟩ := h
        obtain ⟨ib36, h⟩ := h
        refine run_ok (pc' := 171) [(.pop, 0, 0, 0), (.aload_n 0, 0, 0, 0), (.getfield 48, 10, 9, 2), (.aload_n 0, 0, 0, 0), (.getfield 19, 10, 1, 2), (.getfield 166, 1, 0, 2), (.iconst 2, 0, 0, 0), (.iaload, 0, 0, 0)] _ _ _ _ (by decide +kernel) ?_
        show _ ∧ (∃ _, _ ∧ (_ ∧ (∃ _, _ ∧ (_ ∧ (∃ _, _ ∧ (_ ∧ (_)))))))
        refine ⟨(((((o_r0_10).mono hn1).mono hn2).mono hn3).mono hn32), a21, ea33, (((((o_r0_10).mono hn1).mono hn2).mono hn3).mono hn32), a34, ea34, o_a34_1, a35, ea35, ib36, ?_⟩
        show G Γ m_FB_liveMonth (d + 1) (0, 0) Q 171 [.ref r0, jk, jk, .long v2, jk, jk, jk, jk, .int (w 1)] [.int (xI μ32 a35 (w 2).toNatClampNeg), .ref a21] μ32
        refine g_invV (M' := m_Pi_passMonth) (b1 := 0) (b2 := 0) (As := [.int (xI μ32 a35 (w 2).toNatClampNeg)]) (a := a21) (st := []) lk_10_260 (by decide +kernel) rfl (dk_Pi_passMonth d) (Nat.le_of_ble_eq_true rfl) (Or.inl ⟨6, ((o_a21_6).mono hn32), rfl⟩) h ?_
        rintro _ μ37 ⟨rfl, h⟩ hn37
        show G Γ m_FB_liveMonth (d + 1) (0, 0) Q 174 [.ref r0, jk, jk, .long v2, jk, jk, jk, jk, .int (w 1)] [] μ37
        refine run_ok (pc' := 175) [(.lload_n 3, 0, 0, 0)] _ _ _ _ (by decide +kernel) ?_
        show G Γ m_FB_liveMonth (d + 1) (0, 0) Q 175 [.ref r0, jk, jk, .long v2, jk, jk, jk, jk, .int (w 1)] [.long v2] μ37
        exact g_retl (by decide +kernel) rfl h
/-! FrostBox nextDraw(J)J -/
set_option maxRecDepth 100000 in
theorem B_FB_nextDraw_0 {Γ : XG} {d : Nat} {Q : Option Value → XM → Prop} {y0 : Int64} {μ : XM}  (h : Q (some (.long ((y0 * (wl 6364136223846793005)) + (wl 1442695040888963407)))) μ) : G Γ m_FB_nextDraw (d + 1) (0, 0) Q 0 [.long y0, jk] [] μ := by
  refine run_ok (pc' := 9) [(.lload_n 0, 0, 0, 0), (.ldc2_w 289, 0, 0, 6364136223846793005), (.lmul, 0, 0, 0), (.ldc2_w 291, 0, 0, 1442695040888963407), (.ladd, 0, 0, 0)] _ _ _ _ (by decide +kernel) ?_
  show G Γ m_FB_nextDraw (d + 1) (0, 0) Q 9 [.long y0, jk] [.long ((y0 * (wl 6364136223846793005)) + (wl 1442695040888963407))] μ
  exact g_retl (by decide +kernel) rfl h
/-! FrostBox drawnOf(JI)I -/
set_option maxRecDepth 100000 in
theorem B_FB_drawnOf_0 {Γ : XG} {d : Nat} {Q : Option Value → XM → Prop} {x2 : Int32} {y0 : Int64} {μ : XM}  (h : ((w 0 < x2 → ¬ (x2.toInt64) = 0 ∧ Q (some (.int ((((y0.toUInt64 >>> ((w 33).toInt64.toUInt64 &&& Int64.toUInt64 63)).toInt64) - ((y0.toUInt64 >>> ((w 33).toInt64.toUInt64 &&& Int64.toUInt64 63)).toInt64) / (x2.toInt64) * (x2.toInt64)).toInt32))) μ) ∧ (¬ w 0 < x2 → Q (some (.int (w 0))) μ))) : G Γ m_FB_drawnOf (d + 1) (0, 0) Q 0 [.long y0, jk, .int x2] [] μ := by
  refine run_ok (pc' := 1) [(.iload_n 2, 0, 0, 0)] _ _ _ _ (by decide +kernel) ?_
  show G Γ m_FB_drawnOf (d + 1) (0, 0) Q 1 [.long y0, jk, .int x2] [.int x2] μ
  refine g_ifz_le (pc' := 15) (off := 14) (by decide) (by decide +kernel) (fun hc => ?_) (fun hc => ?_)
  · replace h := h.2 hc
    show G Γ m_FB_drawnOf (d + 1) (0, 0) Q 15 [.long y0, jk, .int x2] [] μ
    refine run_ok (pc' := 16) [(.iconst 0, 0, 0, 0)] _ _ _ _ (by decide +kernel) ?_
    show G Γ m_FB_drawnOf (d + 1) (0, 0) Q 16 [.long y0, jk, .int x2] [.int (w 0)] μ
    exact g_reti (by decide +kernel) rfl h
  · replace h := h.1 hc
    show G Γ m_FB_drawnOf (d + 1) (0, 0) Q 4 [.long y0, jk, .int x2] [] μ
    obtain ⟨nz1, h⟩ := h
    refine run_ok (pc' := 16) [(.lload_n 0, 0, 0, 0), (.bipush 33, 0, 0, 0), (.lushr, 0, 0, 0), (.iload_n 2, 0, 0, 0), (.i2l, 0, 0, 0), (.lrem, 0, 0, 0), (.l2i, 0, 0, 0), (.goto 4, 0, 0, 0)] _ _ _ _ (by decide +kernel) ?_
    show _ ∧ (_)
    refine ⟨nz1, ?_⟩
    show G Γ m_FB_drawnOf (d + 1) (0, 0) Q 16 [.long y0, jk, .int x2] [.int ((((y0.toUInt64 >>> ((w 33).toInt64.toUInt64 &&& Int64.toUInt64 63)).toInt64) - ((y0.toUInt64 >>> ((w 33).toInt64.toUInt64 &&& Int64.toUInt64 63)).toInt64) / (x2.toInt64) * (x2.toInt64)).toInt32)] μ
    exact g_reti (by decide +kernel) rfl h
/-! FrostBox undo()I -/
set_option maxRecDepth 100000 in
theorem lk_10_293 : LkV 10 293 m_Ac_giveBack 1 := ⟨lc_Ac_giveBack, lwG_in (List.mem_of_getElem? (i := 830) rfl) rfl, lwG_in (List.mem_of_getElem? (i := 831) rfl) rfl, lwG_in (List.mem_of_getElem? (i := 832) rfl) rfl⟩
set_option maxRecDepth 100000 in
theorem B_FB_undo_0 {Γ : XG} {d : Nat} {Q : Option Value → XM → Prop} {r0 r0_11 r0_12 r0_9 : Nat} {μ : XM} (o_r0_10 : ob μ r0 10) (e_r0_11 : xR μ r0 11 = some r0_11) (o_r0_11_0 : ob μ r0_11 0) (e_r0_12 : xR μ r0 12 = some r0_12) (e_r0_9 : xR μ r0 9 = some r0_9) (o_r0_12_4 : ob μ r0_12 4) (h : ((xI μ r0_11 3 = w 0 → Q (some (.int (w (-1)))) μ) ∧ (¬ xI μ r0_11 3 = w 0 → Call Γ m_Ac_giveBack d [.ref r0_11, .ref r0_9] μ (KI (fun v1 μ1 => ∀ μ2, μ2 = sI μ1 r0_12 1 v1 → xR μ2 r0 11 = some r0_11 ∧ Q (some (.int (xI μ2 r0_11 3))) μ2))))) : G Γ m_FB_undo (d + 1) (0, 0) Q 0 [.ref r0] [] μ := by
  refine run_ok (pc' := 7) [(.aload_n 0, 0, 0, 0), (.getfield 58, 10, 11, 2), (.getfield 149, 0, 3, 0)] _ _ _ _ (by decide +kernel) ?_
  show _ ∧ (∃ _, _ ∧ (_ ∧ (_)))
  refine ⟨o_r0_10, r0_11, e_r0_11, o_r0_11_0, ?_⟩
  show G Γ m_FB_undo (d + 1) (0, 0) Q 7 [.ref r0] [.int (xI μ r0_11 3)] μ
  refine g_ifz_ne (pc' := 12) (off := 5) (by decide) (by decide +kernel) (fun hc => ?_) (fun hc => ?_)
  · replace h := h.2 hc
    show G Γ m_FB_undo (d + 1) (0, 0) Q 12 [.ref r0] [] μ
    refine run_ok (pc' := 24) [(.aload_n 0, 0, 0, 0), (.getfield 65, 10, 12, 2), (.aload_n 0, 0, 0, 0), (.getfield 58, 10, 11, 2), (.aload_n 0, 0, 0, 0), (.getfield 48, 10, 9, 2)] _ _ _ _ (by decide +kernel) ?_
    show _ ∧ (∃ _, _ ∧ (_ ∧ (∃ _, _ ∧ (_ ∧ (∃ _, _ ∧ (_))))))
    refine ⟨o_r0_10, r0_12, e_r0_12, o_r0_10, r0_11, e_r0_11, o_r0_10, r0_9, e_r0_9, ?_⟩
    show G Γ m_FB_undo (d + 1) (0, 0) Q 24 [.ref r0] [.ref r0_9, .ref r0_11, .ref r0_12] μ
    refine g_invV (M' := m_Ac_giveBack) (b1 := 0) (b2 := 0) (As := [.ref r0_9]) (a := r0_11) (st := [.ref r0_12]) lk_10_293 (by decide +kernel) rfl (dk_Ac_giveBack d) (Nat.le_of_ble_eq_true rfl) (Or.inl ⟨0, o_r0_11_0, rfl⟩) h ?_
    rintro _ μ1 ⟨v1, rfl, h⟩ hn1
    show G Γ m_FB_undo (d + 1) (0, 0) Q 27 [.ref r0] [.int v1, .ref r0_12] μ1
    refine run_ok (pc' := 30) [(.putfield 152, 4, 1, 0)] _ _ _ _ (by decide +kernel) ?_
    show _ ∧ (_)
    refine ⟨((o_r0_12_4).mono hn1), ?_⟩
    show G Γ m_FB_undo (d + 1) (0, 0) Q 30 [.ref r0] [] (sI μ1 r0_12 1 v1)
    obtain ⟨μ2, em2⟩ : ∃ m : XM, m = sI μ1 r0_12 1 v1 := ⟨_, rfl⟩
    replace h := h μ2 em2
    have hm2 : xN μ1 ≤ xN μ2 := by rw [em2]; exact Nat.le_refl _
    rw [← em2]
    obtain ⟨ea3, h⟩ := h
    refine run_ok (pc' := 37) [(.aload_n 0, 0, 0, 0), (.getfield 58, 10, 11, 2), (.getfield 149, 0, 3, 0)] _ _ _ _ (by decide +kernel) ?_
    show _ ∧ (∃ _, _ ∧ (_ ∧ (_)))
    refine ⟨(((o_r0_10).mono hn1).mono hm2), r0_11, ea3, (((o_r0_11_0).mono hn1).mono hm2), ?_⟩
    show G Γ m_FB_undo (d + 1) (0, 0) Q 37 [.ref r0] [.int (xI μ2 r0_11 3)] μ2
    exact g_reti (by decide +kernel) rfl h
  · replace h := h.1 hc
    show G Γ m_FB_undo (d + 1) (0, 0) Q 10 [.ref r0] [] μ
    refine run_ok (pc' := 11) [(.iconst (-1), 0, 0, 0)] _ _ _ _ (by decide +kernel) ?_
    show G Γ m_FB_undo (d + 1) (0, 0) Q 11 [.ref r0] [.int (w (-1))] μ
    exact g_reti (by decide +kernel) rfl h
/-! FrostBox log(II)I -/
set_option maxRecDepth 100000 in
theorem lk_10_299 : LkV 10 299 m_Me_told 2 := ⟨lc_Me_told, lwG_in (List.mem_of_getElem? (i := 843) rfl) rfl, lwG_in (List.mem_of_getElem? (i := 844) rfl) rfl, lwG_in (List.mem_of_getElem? (i := 845) rfl) rfl⟩
set_option maxRecDepth 100000 in
theorem lk_10_297 : LkV 10 297 m_Me_length 0 := ⟨lc_Me_length, lwG_in (List.mem_of_getElem? (i := 838) rfl) rfl, lwG_in (List.mem_of_getElem? (i := 839) rfl) rfl, lwG_in (List.mem_of_getElem? (i := 840) rfl) rfl⟩
set_option maxRecDepth 100000 in
theorem B_FB_log_0 {Γ : XG} {d : Nat} {Q : Option Value → XM → Prop} {r0 r0_12 : Nat} {x1 x2 : Int32} {μ : XM} (o_r0_10 : ob μ r0 10) (e_r0_12 : xR μ r0 12 = some r0_12) (o_r0_12_4 : ob μ r0_12 4) (h : ((x1 < w 0 → Q (some (.int (w (-1)))) μ) ∧ (¬ x1 < w 0 → Call Γ m_Me_length d [.ref r0_12] μ (KI (fun v1 μ1 => ((x1 < v1 → ((x2 < w 0 → Q (some (.int (w (-1)))) μ1) ∧ (¬ x2 < w 0 → ((w 3 < x2 → Q (some (.int (w (-1)))) μ1) ∧ (¬ w 3 < x2 → xR μ1 r0 12 = some r0_12 ∧ Call Γ m_Me_told d [.ref r0_12, .int x1, .int x2] μ1 (KI (fun v3 μ3 => Q (some (.int v3)) μ3))))))) ∧ (¬ x1 < v1 → Q (some (.int (w (-1)))) μ1))))))) : G Γ m_FB_log (d + 1) (0, 0) Q 0 [.ref r0, .int x1, .int x2] [] μ := by
  refine run_ok (pc' := 1) [(.iload_n 1, 0, 0, 0)] _ _ _ _ (by decide +kernel) ?_
  show G Γ m_FB_log (d + 1) (0, 0) Q 1 [.ref r0, .int x1, .int x2] [.int x1] μ
  refine g_ifz_lt (pc' := 24) (off := 23) (by decide) (by decide +kernel) (fun hc => ?_) (fun hc => ?_)
  · replace h := h.1 hc
    show G Γ m_FB_log (d + 1) (0, 0) Q 24 [.ref r0, .int x1, .int x2] [] μ
    refine run_ok (pc' := 25) [(.iconst (-1), 0, 0, 0)] _ _ _ _ (by decide +kernel) ?_
    show G Γ m_FB_log (d + 1) (0, 0) Q 25 [.ref r0, .int x1, .int x2] [.int (w (-1))] μ
    exact g_reti (by decide +kernel) rfl h
  · replace h := h.2 hc
    show G Γ m_FB_log (d + 1) (0, 0) Q 4 [.ref r0, .int x1, .int x2] [] μ
    refine run_ok (pc' := 9) [(.iload_n 1, 0, 0, 0), (.aload_n 0, 0, 0, 0), (.getfield 65, 10, 12, 2)] _ _ _ _ (by decide +kernel) ?_
    show _ ∧ (∃ _, _ ∧ (_))
    refine ⟨o_r0_10, r0_12, e_r0_12, ?_⟩
    show G Γ m_FB_log (d + 1) (0, 0) Q 9 [.ref r0, .int x1, .int x2] [.ref r0_12, .int x1] μ
    refine g_invV (M' := m_Me_length) (b1 := 0) (b2 := 0) (As := []) (a := r0_12) (st := [.int x1]) lk_10_297 (by decide +kernel) rfl (dk_Me_length d) (Nat.le_of_ble_eq_true rfl) (Or.inl ⟨4, o_r0_12_4, rfl⟩) h ?_
    rintro _ μ1 ⟨v1, rfl, h⟩ hn1
    show G Γ m_FB_log (d + 1) (0, 0) Q 12 [.ref r0, .int x1, .int x2] [.int v1, .int x1] μ1
    refine g_icmp_ge (pc' := 24) (off := 12) (by decide) (by decide +kernel) (fun hc => ?_) (fun hc => ?_)
    · replace h := h.2 hc
      show G Γ m_FB_log (d + 1) (0, 0) Q 24 [.ref r0, .int x1, .int x2] [] μ1
      refine run_ok (pc' := 25) [(.iconst (-1), 0, 0, 0)] _ _ _ _ (by decide +kernel) ?_
      show G Γ m_FB_log (d + 1) (0, 0) Q 25 [.ref r0, .int x1, .int x2] [.int (w (-1))] μ1
      exact g_reti (by decide +kernel) rfl h
    · replace h := h.1 hc
      show G Γ m_FB_log (d + 1) (0, 0) Q 15 [.ref r0, .int x1, .int x2] [] μ1
      refine run_ok (pc' := 16) [(.iload_n 2, 0, 0, 0)] _ _ _ _ (by decide +kernel) ?_
      show G Γ m_FB_log (d + 1) (0, 0) Q 16 [.ref r0, .int x1, .int x2] [.int x2] μ1
      refine g_ifz_lt (pc' := 24) (off := 8) (by decide) (by decide +kernel) (fun hc => ?_) (fun hc => ?_)
      · replace h := h.1 hc
        show G Γ m_FB_log (d + 1) (0, 0) Q 24 [.ref r0, .int x1, .int x2] [] μ1
        refine run_ok (pc' := 25) [(.iconst (-1), 0, 0, 0)] _ _ _ _ (by decide +kernel) ?_
        show G Γ m_FB_log (d + 1) (0, 0) Q 25 [.ref r0, .int x1, .int x2] [.int (w (-1))] μ1
        exact g_reti (by decide +kernel) rfl h
      · replace h := h.2 hc
        show G Γ m_FB_log (d + 1) (0, 0) Q 19 [.ref r0, .int x1, .int x2] [] μ1
        refine run_ok (pc' := 21) [(.iload_n 2, 0, 0, 0), (.iconst 3, 0, 0, 0)] _ _ _ _ (by decide +kernel) ?_
        show G Γ m_FB_log (d + 1) (0, 0) Q 21 [.ref r0, .int x1, .int x2] [.int (w 3), .int x2] μ1
        refine g_icmp_le (pc' := 26) (off := 5) (by decide) (by decide +kernel) (fun hc => ?_) (fun hc => ?_)
        · replace h := h.2 hc
          show G Γ m_FB_log (d + 1) (0, 0) Q 26 [.ref r0, .int x1, .int x2] [] μ1
          obtain ⟨ea2, h⟩ := h
          refine run_ok (pc' := 32) [(.aload_n 0, 0, 0, 0), (.getfield 65, 10, 12, 2), (.iload_n 1, 0, 0, 0), (.iload_n 2, 0, 0, 0)] _ _ _ _ (by decide +kernel) ?_
          show _ ∧ (∃ _, _ ∧ (_))
          refine ⟨((o_r0_10).mono hn1), r0_12, ea2, ?_⟩
          show G Γ m_FB_log (d + 1) (0, 0) Q 32 [.ref r0, .int x1, .int x2] [.int x2, .int x1, .ref r0_12] μ1
          refine g_invV (M' := m_Me_told) (b1 := 0) (b2 := 0) (As := [.int x1, .int x2]) (a := r0_12) (st := []) lk_10_299 (by decide +kernel) rfl (dk_Me_told d) (Nat.le_of_ble_eq_true rfl) (Or.inl ⟨4, ((o_r0_12_4).mono hn1), rfl⟩) h ?_
          rintro _ μ3 ⟨v3, rfl, h⟩ hn3
          show G Γ m_FB_log (d + 1) (0, 0) Q 35 [.ref r0, .int x1, .int x2] [.int v3] μ3
          exact g_reti (by decide +kernel) rfl h
        · replace h := h.1 hc
          show G Γ m_FB_log (d + 1) (0, 0) Q 24 [.ref r0, .int x1, .int x2] [] μ1
          refine run_ok (pc' := 25) [(.iconst (-1), 0, 0, 0)] _ _ _ _ (by decide +kernel) ?_
          show G Γ m_FB_log (d + 1) (0, 0) Q 25 [.ref r0, .int x1, .int x2] [.int (w (-1))] μ1
          exact g_reti (by decide +kernel) rfl h
/-! FrostBox image()I -/
set_option maxRecDepth 100000 in
theorem lk_10_301 : LkV 10 301 m_Sn_keepOf 2 := ⟨lc_Sn_keepOf, lwG_in (List.mem_of_getElem? (i := 851) rfl) rfl, lwG_in (List.mem_of_getElem? (i := 852) rfl) rfl, lwG_in (List.mem_of_getElem? (i := 853) rfl) rfl⟩
set_option maxRecDepth 100000 in
theorem B_FB_image_0 {Γ : XG} {d : Nat} {Q : Option Value → XM → Prop} {r0 : Nat} {μ : XM} (o_r0_10 : ob μ r0 10) (h : Call Γ m_FB_hasHouse d [.ref r0] μ (KI (fun v1 μ1 => ((v1 = w 0 → Q (some (.int (w (-1)))) μ1) ∧ (¬ v1 = w 0 → ∃ a2, xR μ1 r0 13 = some a2 ∧ ∃ a3, xR μ1 r0 9 = some a3 ∧ ∃ a4, xR μ1 r0 12 = some a4 ∧ ob μ1 a2 8 ∧ Call Γ m_Sn_keepOf d [.ref a2, .ref a3, .ref a4] μ1 (KV (fun μ5 => xR μ5 r0 9 = some a3 ∧ ob μ5 a3 6 ∧ Q (some (.int (xI μ5 a3 5))) μ5))))))) : G Γ m_FB_image (d + 1) (0, 0) Q 0 [.ref r0] [] μ := by
  refine run_ok (pc' := 1) [(.aload_n 0, 0, 0, 0)] _ _ _ _ (by decide +kernel) ?_
  show G Γ m_FB_image (d + 1) (0, 0) Q 1 [.ref r0] [.ref r0] μ
  refine g_invV (M' := m_FB_hasHouse) (b1 := 0) (b2 := 0) (As := []) (a := r0) (st := []) lk_10_162 (by decide +kernel) rfl (dk_FB_hasHouse d) (Nat.le_of_ble_eq_true rfl) (Or.inl ⟨10, o_r0_10, rfl⟩) h ?_
  rintro _ μ1 ⟨v1, rfl, h⟩ hn1
  show G Γ m_FB_image (d + 1) (0, 0) Q 4 [.ref r0] [.int v1] μ1
  refine g_ifz_ne (pc' := 9) (off := 5) (by decide) (by decide +kernel) (fun hc => ?_) (fun hc => ?_)
  · replace h := h.2 hc
    show G Γ m_FB_image (d + 1) (0, 0) Q 9 [.ref r0] [] μ1
    obtain ⟨a2, ea2, h⟩ := h
    obtain ⟨a3, ea3, h⟩ := h
    obtain ⟨a4, ea4, h⟩ := h
    refine run_ok (pc' := 21) [(.aload_n 0, 0, 0, 0), (.getfield 72, 10, 13, 2), (.aload_n 0, 0, 0, 0), (.getfield 48, 10, 9, 2), (.aload_n 0, 0, 0, 0), (.getfield 65, 10, 12, 2)] _ _ _ _ (by decide +kernel) ?_
    show _ ∧ (∃ _, _ ∧ (_ ∧ (∃ _, _ ∧ (_ ∧ (∃ _, _ ∧ (_))))))
    refine ⟨((o_r0_10).mono hn1), a2, ea2, ((o_r0_10).mono hn1), a3, ea3, ((o_r0_10).mono hn1), a4, ea4, ?_⟩
    show G Γ m_FB_image (d + 1) (0, 0) Q 21 [.ref r0] [.ref a4, .ref a3, .ref a2] μ1
    obtain ⟨o_a2_8, h⟩ := h
    refine g_invV (M' := m_Sn_keepOf) (b1 := 0) (b2 := 0) (As := [.ref a3, .ref a4]) (a := a2) (st := []) lk_10_301 (by decide +kernel) rfl (dk_Sn_keepOf d) (Nat.le_of_ble_eq_true rfl) (Or.inl ⟨8, o_a2_8, rfl⟩) h ?_
    rintro _ μ5 ⟨rfl, h⟩ hn5
    show G Γ m_FB_image (d + 1) (0, 0) Q 24 [.ref r0] [] μ5
    obtain ⟨ea6, h⟩ := h
    obtain ⟨o_a3_6, h⟩ := h
    refine run_ok (pc' := 31) [(.aload_n 0, 0, 0, 0), (.getfield 48, 10, 9, 2), (.getfield 209, 6, 5, 0)] _ _ _ _ (by decide +kernel) ?_
    show _ ∧ (∃ _, _ ∧ (_ ∧ (_)))
    refine ⟨(((o_r0_10).mono hn1).mono hn5), a3, ea6, o_a3_6, ?_⟩
    show G Γ m_FB_image (d + 1) (0, 0) Q 31 [.ref r0] [.int (xI μ5 a3 5)] μ5
    exact g_reti (by decide +kernel) rfl h
  · replace h := h.1 hc
    show G Γ m_FB_image (d + 1) (0, 0) Q 7 [.ref r0] [] μ1
    refine run_ok (pc' := 8) [(.iconst (-1), 0, 0, 0)] _ _ _ _ (by decide +kernel) ?_
    show G Γ m_FB_image (d + 1) (0, 0) Q 8 [.ref r0] [.int (w (-1))] μ1
    exact g_reti (by decide +kernel) rfl h
/-! FrostBox back()I -/
set_option maxRecDepth 100000 in
theorem lk_10_305 : LkV 10 305 m_Sn_giveBack 2 := ⟨lc_Sn_giveBack, lwG_in (List.mem_of_getElem? (i := 865) rfl) rfl, lwG_in (List.mem_of_getElem? (i := 866) rfl) rfl, lwG_in (List.mem_of_getElem? (i := 867) rfl) rfl⟩
set_option maxRecDepth 100000 in
theorem B_FB_back_0 {Γ : XG} {d : Nat} {Q : Option Value → XM → Prop} {r0 : Nat} {μ : XM} (o_r0_10 : ob μ r0 10) (h : Call Γ m_FB_hasHouse d [.ref r0] μ (KI (fun v1 μ1 => ((v1 = w 0 → Q (some (.int (w (-1)))) μ1) ∧ (¬ v1 = w 0 → ∃ a2, xR μ1 r0 13 = some a2 ∧ ob μ1 a2 8 ∧ ((xI μ1 a2 2 = w 0 → Q (some (.int (w (-1)))) μ1) ∧ (¬ xI μ1 a2 2 = w 0 → ∃ a3, xR μ1 r0 9 = some a3 ∧ ∃ a4, xR μ1 r0 12 = some a4 ∧ Call Γ m_Sn_giveBack d [.ref a2, .ref a3, .ref a4] μ1 (KV (fun μ5 => ∃ a6, xR μ5 r0 11 = some a6 ∧ ob μ5 a6 0 ∧ ∀ μ7, μ7 = sI μ5 a6 3 (w 0) → xR μ7 r0 9 = some a3 ∧ ob μ7 a3 6 ∧ Q (some (.int (xI μ7 a3 5))) μ7))))))))) : G Γ m_FB_back (d + 1) (0, 0) Q 0 [.ref r0] [] μ := by
  refine run_ok (pc' := 1) [(.aload_n 0, 0, 0, 0)] _ _ _ _ (by decide +kernel) ?_
  show G Γ m_FB_back (d + 1) (0, 0) Q 1 [.ref r0] [.ref r0] μ
  refine g_invV (M' := m_FB_hasHouse) (b1 := 0) (b2 := 0) (As := []) (a := r0) (st := []) lk_10_162 (by decide +kernel) rfl (dk_FB_hasHouse d) (Nat.le_of_ble_eq_true rfl) (Or.inl ⟨10, o_r0_10, rfl⟩) h ?_
  rintro _ μ1 ⟨v1, rfl, h⟩ hn1
  show G Γ m_FB_back (d + 1) (0, 0) Q 4 [.ref r0] [.int v1] μ1
  refine g_ifz_eq (pc' := 17) (off := 13) (by decide) (by decide +kernel) (fun hc => ?_) (fun hc => ?_)
  · replace h := h.1 hc
    show G Γ m_FB_back (d + 1) (0, 0) Q 17 [.ref r0] [] μ1
    refine run_ok (pc' := 18) [(.iconst (-1), 0, 0, 0)] _ _ _ _ (by decide +kernel) ?_
    show G Γ m_FB_back (d + 1) (0, 0) Q 18 [.ref r0] [.int (w (-1))] μ1
    exact g_reti (by decide +kernel) rfl h
  · replace h := h.2 hc
    show G Γ m_FB_back (d + 1) (0, 0) Q 7 [.ref r0] [] μ1
    obtain ⟨a2, ea2, h⟩ := h
    obtain ⟨o_a2_8, h⟩ := h
    refine run_ok (pc' := 14) [(.aload_n 0, 0, 0, 0), (.getfield 72, 10, 13, 2), (.getfield 155, 8, 2, 0)] _ _ _ _ (by decide +kernel) ?_
    show _ ∧ (∃ _, _ ∧ (_ ∧ (_)))
    refine ⟨((o_r0_10).mono hn1), a2, ea2, o_a2_8, ?_⟩
    show G Γ m_FB_back (d + 1) (0, 0) Q 14 [.ref r0] [.int (xI μ1 a2 2)] μ1
    refine g_ifz_ne (pc' := 19) (off := 5) (by decide) (by decide +kernel) (fun hc => ?_) (fun hc => ?_)
    · replace h := h.2 hc
      show G Γ m_FB_back (d + 1) (0, 0) Q 19 [.ref r0] [] μ1
      obtain ⟨a3, ea3, h⟩ := h
      obtain ⟨a4, ea4, h⟩ := h
      refine run_ok (pc' := 31) [(.aload_n 0, 0, 0, 0), (.getfield 72, 10, 13, 2), (.aload_n 0, 0, 0, 0), (.getfield 48, 10, 9, 2), (.aload_n 0, 0, 0, 0), (.getfield 65, 10, 12, 2)] _ _ _ _ (by decide +kernel) ?_
      show _ ∧ (∃ _, _ ∧ (_ ∧ (∃ _, _ ∧ (_ ∧ (∃ _, _ ∧ (_))))))
      refine ⟨((o_r0_10).mono hn1), a2, ea2, ((o_r0_10).mono hn1), a3, ea3, ((o_r0_10).mono hn1), a4, ea4, ?_⟩
      show G Γ m_FB_back (d + 1) (0, 0) Q 31 [.ref r0] [.ref a4, .ref a3, .ref a2] μ1
      refine g_invV (M' := m_Sn_giveBack) (b1 := 0) (b2 := 0) (As := [.ref a3, .ref a4]) (a := a2) (st := []) lk_10_305 (by decide +kernel) rfl (dk_Sn_giveBack d) (Nat.le_of_ble_eq_true rfl) (Or.inl ⟨8, o_a2_8, rfl⟩) h ?_
      rintro _ μ5 ⟨rfl, h⟩ hn5
      show G Γ m_FB_back (d + 1) (0, 0) Q 34 [.ref r0] [] μ5
      obtain ⟨a6, ea6, h⟩ := h
      obtain ⟨o_a6_0, h⟩ := h
      refine run_ok (pc' := 42) [(.aload_n 0, 0, 0, 0), (.getfield 58, 10, 11, 2), (.iconst 0, 0, 0, 0), (.putfield 149, 0, 3, 0)] _ _ _ _ (by decide +kernel) ?_
      show _ ∧ (∃ _, _ ∧ (_ ∧ (_)))
      refine ⟨(((o_r0_10).mono hn1).mono hn5), a6, ea6, o_a6_0, ?_⟩
      show G Γ m_FB_back (d + 1) (0, 0) Q 42 [.ref r0] [] (sI μ5 a6 3 (w 0))
      obtain ⟨μ7, em7⟩ : ∃ m : XM, m = sI μ5 a6 3 (w 0) := ⟨_, rfl⟩
      replace h := h μ7 em7
      have hm7 : xN μ5 ≤ xN μ7 := by rw [em7]; exact Nat.le_refl _
      rw [← em7]
      obtain ⟨ea8, h⟩ := h
      obtain ⟨o_a3_6, h⟩ := h
      refine run_ok (pc' := 49) [(.aload_n 0, 0, 0, 0), (.getfield 48, 10, 9, 2), (.getfield 209, 6, 5, 0)] _ _ _ _ (by decide +kernel) ?_
      show _ ∧ (∃ _, _ ∧ (_ ∧ (_)))
      refine ⟨((((o_r0_10).mono hn1).mono hn5).mono hm7), a3, ea8, o_a3_6, ?_⟩
      show G Γ m_FB_back (d + 1) (0, 0) Q 49 [.ref r0] [.int (xI μ7 a3 5)] μ7
      exact g_reti (by decide +kernel) rfl h
    · replace h := h.1 hc
      show G Γ m_FB_back (d + 1) (0, 0) Q 17 [.ref r0] [] μ1
      refine run_ok (pc' := 18) [(.iconst (-1), 0, 0, 0)] _ _ _ _ (by decide +kernel) ?_
      show G Γ m_FB_back (d + 1) (0, 0) Q 18 [.ref r0] [.int (w (-1))] μ1
      exact g_reti (by decide +kernel) rfl h
/-! FrostBox isPlan(I)Z -/
set_option maxRecDepth 100000 in
theorem B_FB_isPlan_0 {Γ : XG} {d : Nat} {Q : Option Value → XM → Prop} {r0 : Nat} {x1 : Int32} {μ : XM} (o_r0_10 : ob μ r0 10) (h : ((x1 < w 0 → Q (some (.int (w 0))) μ) ∧ (¬ x1 < w 0 → ((x1 < xI μ r0 7 → Q (some (.int (w 1))) μ) ∧ (¬ x1 < xI μ r0 7 → Q (some (.int (w 0))) μ))))) : G Γ m_FB_isPlan (d + 1) (0, 0) Q 0 [.ref r0, .int x1] [] μ := by
  refine run_ok (pc' := 1) [(.iload_n 1, 0, 0, 0)] _ _ _ _ (by decide +kernel) ?_
  show G Γ m_FB_isPlan (d + 1) (0, 0) Q 1 [.ref r0, .int x1] [.int x1] μ
  refine g_ifz_lt (pc' := 16) (off := 15) (by decide) (by decide +kernel) (fun hc => ?_) (fun hc => ?_)
  · replace h := h.1 hc
    show G Γ m_FB_isPlan (d + 1) (0, 0) Q 16 [.ref r0, .int x1] [] μ
    refine run_ok (pc' := 17) [(.iconst 0, 0, 0, 0)] _ _ _ _ (by decide +kernel) ?_
    show G Γ m_FB_isPlan (d + 1) (0, 0) Q 17 [.ref r0, .int x1] [.int (w 0)] μ
    exact g_retz (by decide +kernel) rfl (Or.inl rfl) h
  · replace h := h.2 hc
    show G Γ m_FB_isPlan (d + 1) (0, 0) Q 4 [.ref r0, .int x1] [] μ
    refine run_ok (pc' := 9) [(.iload_n 1, 0, 0, 0), (.aload_n 0, 0, 0, 0), (.getfield 138, 10, 7, 0)] _ _ _ _ (by decide +kernel) ?_
    show _ ∧ (_)
    refine ⟨o_r0_10, ?_⟩
    show G Γ m_FB_isPlan (d + 1) (0, 0) Q 9 [.ref r0, .int x1] [.int (xI μ r0 7), .int x1] μ
    refine g_icmp_ge (pc' := 16) (off := 7) (by decide) (by decide +kernel) (fun hc => ?_) (fun hc => ?_)
    · replace h := h.2 hc
      show G Γ m_FB_isPlan (d + 1) (0, 0) Q 16 [.ref r0, .int x1] [] μ
      refine run_ok (pc' := 17) [(.iconst 0, 0, 0, 0)] _ _ _ _ (by decide +kernel) ?_
      show G Γ m_FB_isPlan (d + 1) (0, 0) Q 17 [.ref r0, .int x1] [.int (w 0)] μ
      exact g_retz (by decide +kernel) rfl (Or.inl rfl) h
    · replace h := h.1 hc
      show G Γ m_FB_isPlan (d + 1) (0, 0) Q 12 [.ref r0, .int x1] [] μ
      refine run_ok (pc' := 17) [(.iconst 1, 0, 0, 0), (.goto 4, 0, 0, 0)] _ _ _ _ (by decide +kernel) ?_
      show G Γ m_FB_isPlan (d + 1) (0, 0) Q 17 [.ref r0, .int x1] [.int (w 1)] μ
      exact g_retz (by decide +kernel) rfl (Or.inr rfl) h
/-! FrostBox step(III)I -/
set_option maxRecDepth 100000 in
theorem lk_10_312 : LkV 10 312 m_Pl_told 2 := ⟨lc_Pl_told, lwG_in (List.mem_of_getElem? (i := 878) rfl) rfl, lwG_in (List.mem_of_getElem? (i := 879) rfl) rfl, lwG_in (List.mem_of_getElem? (i := 880) rfl) rfl⟩
set_option maxRecDepth 100000 in
theorem lk_10_307 : LkV 10 307 m_FB_isPlan 1 := ⟨lc_FB_isPlan, lwG_in (List.mem_of_getElem? (i := 873) rfl) rfl, lwG_in (List.mem_of_getElem? (i := 875) rfl) rfl, lwG_in (List.mem_of_getElem? (i := 32) rfl) rfl⟩
set_option maxRecDepth 100000 in
theorem B_FB_step_0 {Γ : XG} {d : Nat} {Q : Option Value → XM → Prop} {r0 : Nat} {x1 x2 x3 : Int32} {μ : XM} (o_r0_10 : ob μ r0 10) (h : Call Γ m_FB_isPlan d [.ref r0, .int x1] μ (KI (fun v1 μ1 => ((v1 = w 0 → Q (some (.int (w (-1000000)))) μ1) ∧ (¬ v1 = w 0 → ((x2 < w 0 → Q (some (.int (w (-1000000)))) μ1) ∧ (¬ x2 < w 0 → ∃ a2, xR μ1 r0 6 = some a2 ∧ inb μ1 6 a2 x1 ∧ ∃ a3, xR μ1 a2 x1.toNatClampNeg = some a3 ∧ ob μ1 a3 7 ∧ ((x2 < xI μ1 a3 4 → ((x3 < w 0 → Q (some (.int (w (-1000000)))) μ1) ∧ (¬ x3 < w 0 → ((w 3 < x3 → Q (some (.int (w (-1000000)))) μ1) ∧ (¬ w 3 < x3 → inb μ1 6 a2 x1 ∧ ∃ a4, xR μ1 a2 x1.toNatClampNeg = some a4 ∧ ob μ1 a4 7 ∧ Call Γ m_Pl_told d [.ref a4, .int x2, .int x3] μ1 (KI (fun v5 μ5 => Q (some (.int v5)) μ5))))))) ∧ (¬ x2 < xI μ1 a3 4 → Q (some (.int (w (-1000000)))) μ1))))))))) : G Γ m_FB_step (d + 1) (0, 0) Q 0 [.ref r0, .int x1, .int x2, .int x3] [] μ := by
  refine run_ok (pc' := 2) [(.aload_n 0, 0, 0, 0), (.iload_n 1, 0, 0, 0)] _ _ _ _ (by decide +kernel) ?_
  show G Γ m_FB_step (d + 1) (0, 0) Q 2 [.ref r0, .int x1, .int x2, .int x3] [.int x1, .ref r0] μ
  refine g_invV (M' := m_FB_isPlan) (b1 := 0) (b2 := 0) (As := [.int x1]) (a := r0) (st := []) lk_10_307 (by decide +kernel) rfl (dk_FB_isPlan d) (Nat.le_of_ble_eq_true rfl) (Or.inl ⟨10, o_r0_10, rfl⟩) h ?_
  rintro _ μ1 ⟨v1, rfl, h⟩ hn1
  show G Γ m_FB_step (d + 1) (0, 0) Q 5 [.ref r0, .int x1, .int x2, .int x3] [.int v1] μ1
  refine g_ifz_eq (pc' := 34) (off := 29) (by decide) (by decide +kernel) (fun hc => ?_) (fun hc => ?_)
  · replace h := h.1 hc
    show G Γ m_FB_step (d + 1) (0, 0) Q 34 [.ref r0, .int x1, .int x2, .int x3] [] μ1
    refine run_ok (pc' := 37) [(.ldc_w 311, 0, 0, (-1000000))] _ _ _ _ (by decide +kernel) ?_
    show G Γ m_FB_step (d + 1) (0, 0) Q 37 [.ref r0, .int x1, .int x2, .int x3] [.int (w (-1000000))] μ1
    exact g_reti (by decide +kernel) rfl h
  · replace h := h.2 hc
    show G Γ m_FB_step (d + 1) (0, 0) Q 8 [.ref r0, .int x1, .int x2, .int x3] [] μ1
    refine run_ok (pc' := 9) [(.iload_n 2, 0, 0, 0)] _ _ _ _ (by decide +kernel) ?_
    show G Γ m_FB_step (d + 1) (0, 0) Q 9 [.ref r0, .int x1, .int x2, .int x3] [.int x2] μ1
    refine g_ifz_lt (pc' := 34) (off := 25) (by decide) (by decide +kernel) (fun hc => ?_) (fun hc => ?_)
    · replace h := h.1 hc
      show G Γ m_FB_step (d + 1) (0, 0) Q 34 [.ref r0, .int x1, .int x2, .int x3] [] μ1
      refine run_ok (pc' := 37) [(.ldc_w 311, 0, 0, (-1000000))] _ _ _ _ (by decide +kernel) ?_
      show G Γ m_FB_step (d + 1) (0, 0) Q 37 [.ref r0, .int x1, .int x2, .int x3] [.int (w (-1000000))] μ1
      exact g_reti (by decide +kernel) rfl h
    · replace h := h.2 hc
      show G Γ m_FB_step (d + 1) (0, 0) Q 12 [.ref r0, .int x1, .int x2, .int x3] [] μ1
      obtain ⟨a2, ea2, h⟩ := h
      obtain ⟨ib3, h⟩ := h
      obtain ⟨a3, ea3, h⟩ := h
      obtain ⟨o_a3_7, h⟩ := h
      refine run_ok (pc' := 22) [(.iload_n 2, 0, 0, 0), (.aload_n 0, 0, 0, 0), (.getfield 38, 10, 6, 2), (.iload_n 1, 0, 0, 0), (.aaload, 6, 0, 0), (.getfield 310, 7, 4, 0)] _ _ _ _ (by decide +kernel) ?_
      show _ ∧ (∃ _, _ ∧ (_ ∧ (∃ _, _ ∧ (_ ∧ (_)))))
      refine ⟨((o_r0_10).mono hn1), a2, ea2, ib3, a3, ea3, o_a3_7, ?_⟩
      show G Γ m_FB_step (d + 1) (0, 0) Q 22 [.ref r0, .int x1, .int x2, .int x3] [.int (xI μ1 a3 4), .int x2] μ1
      refine g_icmp_ge (pc' := 34) (off := 12) (by decide) (by decide +kernel) (fun hc => ?_) (fun hc => ?_)
      · replace h := h.2 hc
        show G Γ m_FB_step (d + 1) (0, 0) Q 34 [.ref r0, .int x1, .int x2, .int x3] [] μ1
        refine run_ok (pc' := 37) [(.ldc_w 311, 0, 0, (-1000000))] _ _ _ _ (by decide +kernel) ?_
        show G Γ m_FB_step (d + 1) (0, 0) Q 37 [.ref r0, .int x1, .int x2, .int x3] [.int (w (-1000000))] μ1
        exact g_reti (by decide +kernel) rfl h
      · replace h := h.1 hc
        show G Γ m_FB_step (d + 1) (0, 0) Q 25 [.ref r0, .int x1, .int x2, .int x3] [] μ1
        refine run_ok (pc' := 26) [(.iload_n 3, 0, 0, 0)] _ _ _ _ (by decide +kernel) ?_
        show G Γ m_FB_step (d + 1) (0, 0) Q 26 [.ref r0, .int x1, .int x2, .int x3] [.int x3] μ1
        refine g_ifz_lt (pc' := 34) (off := 8) (by decide) (by decide +kernel) (fun hc => ?_) (fun hc => ?_)
        · replace h := h.1 hc
          show G Γ m_FB_step (d + 1) (0, 0) Q 34 [.ref r0, .int x1, .int x2, .int x3] [] μ1
          refine run_ok (pc' := 37) [(.ldc_w 311, 0, 0, (-1000000))] _ _ _ _ (by decide +kernel) ?_
          show G Γ m_FB_step (d + 1) (0, 0) Q 37 [.ref r0, .int x1, .int x2, .int x3] [.int (w (-1000000))] μ1
          exact g_reti (by decide +kernel) rfl h
        · replace h := h.2 hc
          show G Γ m_FB_step (d + 1) (0, 0) Q 29 [.ref r0, .int x1, .int x2, .int x3] [] μ1
          refine run_ok (pc' := 31) [(.iload_n 3, 0, 0, 0), (.iconst 3, 0, 0, 0)] _ _ _ _ (by decide +kernel) ?_
          show G Γ m_FB_step (d + 1) (0, 0) Q 31 [.ref r0, .int x1, .int x2, .int x3] [.int (w 3), .int x3] μ1
          refine g_icmp_le (pc' := 38) (off := 7) (by decide) (by decide +kernel) (fun hc => ?_) (fun hc => ?_)
          · replace h := h.2 hc
            show G Γ m_FB_step (d + 1) (0, 0) Q 38 [.ref r0, .int x1, .int x2, .int x3] [] μ1
            obtain ⟨ib4, h⟩ := h
            obtain ⟨a4, ea4, h⟩ := h
            refine run_ok (pc' := 46) [(.aload_n 0, 0, 0, 0), (.getfield 38, 10, 6, 2), (.iload_n 1, 0, 0, 0), (.aaload, 6, 0, 0), (.iload_n 2, 0, 0, 0), (.iload_n 3, 0, 0, 0)] _ _ _ _ (by decide +kernel) ?_
            show _ ∧ (∃ _, _ ∧ (_ ∧ (∃ _, _ ∧ (_))))
            refine ⟨((o_r0_10).mono hn1), a2, ea2, ib4, a4, ea4, ?_⟩
            show G Γ m_FB_step (d + 1) (0, 0) Q 46 [.ref r0, .int x1, .int x2, .int x3] [.int x3, .int x2, .ref a4] μ1
            obtain ⟨o_a4_7, h⟩ := h
            refine g_invV (M' := m_Pl_told) (b1 := 0) (b2 := 0) (As := [.int x2, .int x3]) (a := a4) (st := []) lk_10_312 (by decide +kernel) rfl (dk_Pl_told d) (Nat.le_of_ble_eq_true rfl) (Or.inl ⟨7, o_a4_7, rfl⟩) h ?_
            rintro _ μ5 ⟨v5, rfl, h⟩ hn5
            show G Γ m_FB_step (d + 1) (0, 0) Q 49 [.ref r0, .int x1, .int x2, .int x3] [.int v5] μ5
            exact g_reti (by decide +kernel) rfl h
          · replace h := h.1 hc
            show G Γ m_FB_step (d + 1) (0, 0) Q 34 [.ref r0, .int x1, .int x2, .int x3] [] μ1
            refine run_ok (pc' := 37) [(.ldc_w 311, 0, 0, (-1000000))] _ _ _ _ (by decide +kernel) ?_
            show G Γ m_FB_step (d + 1) (0, 0) Q 37 [.ref r0, .int x1, .int x2, .int x3] [.int (w (-1000000))] μ1
            exact g_reti (by decide +kernel) rfl h
/-! FrostBox run(II)I -/
set_option maxRecDepth 100000 in
theorem lk_10_323 : LkV 10 323 m_FB_goApart 2 := ⟨lc_FB_goApart, lwG_in (List.mem_of_getElem? (i := 890) rfl) rfl, lwG_in (List.mem_of_getElem? (i := 892) rfl) rfl, lwG_in (List.mem_of_getElem? (i := 34) rfl) rfl⟩
set_option maxRecDepth 100000 in
theorem lk_10_313 : LkV 10 313 m_FB_canBe 3 := ⟨lc_FB_canBe, lwG_in (List.mem_of_getElem? (i := 886) rfl) rfl, lwG_in (List.mem_of_getElem? (i := 888) rfl) rfl, lwG_in (List.mem_of_getElem? (i := 33) rfl) rfl⟩
set_option maxRecDepth 100000 in
theorem B_FB_run_0 {Γ : XG} {d : Nat} {Q : Option Value → XM → Prop} {r0 : Nat} {x1 x2 : Int32} {μ : XM} (o_r0_10 : ob μ r0 10) (h : Call Γ m_FB_isPlan d [.ref r0, .int x1] μ (KI (fun v1 μ1 => ((v1 = w 0 → Q (some (.int (w (-1000000)))) μ1) ∧ (¬ v1 = w 0 → ((x2 < w 0 → Q (some (.int (w (-1000000)))) μ1) ∧ (¬ x2 < w 0 → ((w 1 < x2 → Q (some (.int (w (-1000000)))) μ1) ∧ (¬ w 1 < x2 → Call Γ m_FB_hasHouse d [.ref r0] μ1 (KI (fun v2 μ2 => ((v2 = w 0 → Q (some (.int (w (-1000000)))) μ2) ∧ (¬ v2 = w 0 → ∃ a3, xR μ2 r0 6 = some a3 ∧ inb μ2 6 a3 x1 ∧ ∃ a4, xR μ2 a3 x1.toNatClampNeg = some a4 ∧ ∃ a5, xR μ2 r0 10 = some a5 ∧ ∃ a6, xR μ2 r0 9 = some a6 ∧ ob μ2 a5 6 ∧ Call Γ m_Pi_copyFrom d [.ref a5, .ref a6] μ2 (KV (fun μ7 => G Γ m_FB_run (d + 1) (0, 0) Q 52 [.ref r0, jk, .int x2, .ref a4, .int (w 0), .int (w 0)] [] μ7))))))))))))))) : G Γ m_FB_run (d + 1) (0, 0) Q 0 [.ref r0, .int x1, .int x2] [] μ := by
  refine run_ok (pc' := 2) [(.aload_n 0, 0, 0, 0), (.iload_n 1, 0, 0, 0)] _ _ _ _ (by decide +kernel) ?_
  show G Γ m_FB_run (d + 1) (0, 0) Q 2 [.ref r0, .int x1, .int x2] [.int x1, .ref r0] μ
  refine g_invV (M' := m_FB_isPlan) (b1 := 0) (b2 := 0) (As := [.int x1]) (a := r0) (st := []) lk_10_307 (by decide +kernel) rfl (dk_FB_isPlan d) (Nat.le_of_ble_eq_true rfl) (Or.inl ⟨10, o_r0_10, rfl⟩) h ?_
  rintro _ μ1 ⟨v1, rfl, h⟩ hn1
  show G Γ m_FB_run (d + 1) (0, 0) Q 5 [.ref r0, .int x1, .int x2] [.int v1] μ1
  refine g_ifz_eq (pc' := 24) (off := 19) (by decide) (by decide +kernel) (fun hc => ?_) (fun hc => ?_)
  · replace h := h.1 hc
    show G Γ m_FB_run (d + 1) (0, 0) Q 24 [.ref r0, .int x1, .int x2] [] μ1
    refine run_ok (pc' := 27) [(.ldc_w 311, 0, 0, (-1000000))] _ _ _ _ (by decide +kernel) ?_
    show G Γ m_FB_run (d + 1) (0, 0) Q 27 [.ref r0, .int x1, .int x2] [.int (w (-1000000))] μ1
    exact g_reti (by decide +kernel) rfl h
  · replace h := h.2 hc
    show G Γ m_FB_run (d + 1) (0, 0) Q 8 [.ref r0, .int x1, .int x2] [] μ1
    refine run_ok (pc' := 9) [(.iload_n 2, 0, 0, 0)] _ _ _ _ (by decide +kernel) ?_
    show G Γ m_FB_run (d + 1) (0, 0) Q 9 [.ref r0, .int x1, .int x2] [.int x2] μ1
    refine g_ifz_lt (pc' := 24) (off := 15) (by decide) (by decide +kernel) (fun hc => ?_) (fun hc => ?_)
    · replace h := h.1 hc
      show G Γ m_FB_run (d + 1) (0, 0) Q 24 [.ref r0, .int x1, .int x2] [] μ1
      refine run_ok (pc' := 27) [(.ldc_w 311, 0, 0, (-1000000))] _ _ _ _ (by decide +kernel) ?_
      show G Γ m_FB_run (d + 1) (0, 0) Q 27 [.ref r0, .int x1, .int x2] [.int (w (-1000000))] μ1
      exact g_reti (by decide +kernel) rfl h
    · replace h := h.2 hc
      show G Γ m_FB_run (d + 1) (0, 0) Q 12 [.ref r0, .int x1, .int x2] [] μ1
      refine run_ok (pc' := 14) [(.iload_n 2, 0, 0, 0), (.iconst 1, 0, 0, 0)] _ _ _ _ (by decide +kernel) ?_
      show G Γ m_FB_run (d + 1) (0, 0) Q 14 [.ref r0, .int x1, .int x2] [.int (w 1), .int x2] μ1
      refine g_icmp_gt (pc' := 24) (off := 10) (by decide) (by decide +kernel) (fun hc => ?_) (fun hc => ?_)
      · replace h := h.1 hc
        show G Γ m_FB_run (d + 1) (0, 0) Q 24 [.ref r0, .int x1, .int x2] [] μ1
        refine run_ok (pc' := 27) [(.ldc_w 311, 0, 0, (-1000000))] _ _ _ _ (by decide +kernel) ?_
        show G Γ m_FB_run (d + 1) (0, 0) Q 27 [.ref r0, .int x1, .int x2] [.int (w (-1000000))] μ1
        exact g_reti (by decide +kernel) rfl h
      · replace h := h.2 hc
        show G Γ m_FB_run (d + 1) (0, 0) Q 17 [.ref r0, .int x1, .int x2] [] μ1
        refine run_ok (pc' := 18) [(.aload_n 0, 0, 0, 0)] _ _ _ _ (by decide +kernel) ?_
        show G Γ m_FB_run (d + 1) (0, 0) Q 18 [.ref r0, .int x1, .int x2] [.ref r0] μ1
        refine g_invV (M' := m_FB_hasHouse) (b1 := 0) (b2 := 0) (As := []) (a := r0) (st := []) lk_10_162 (by decide +kernel) rfl (dk_FB_hasHouse d) (Nat.le_of_ble_eq_true rfl) (Or.inl ⟨10, ((o_r0_10).mono hn1), rfl⟩) h ?_
        rintro _ μ2 ⟨v2, rfl, h⟩ hn2
        show G Γ m_FB_run (d + 1) (0, 0) Q 21 [.ref r0, .int x1, .int x2] [.int v2] μ2
        refine g_ifz_ne (pc' := 28) (off := 7) (by decide) (by decide +kernel) (fun hc => ?_) (fun hc => ?_)
        · replace h := h.2 hc
          show G Γ m_FB_run (d + 1) (0, 0) Q 28 [.ref r0, .int x1, .int x2] [] μ2
          obtain ⟨a3, ea3, h⟩ := h
          obtain ⟨ib4, h⟩ := h
          obtain ⟨a4, ea4, h⟩ := h
          obtain ⟨a5, ea5, h⟩ := h
          obtain ⟨a6, ea6, h⟩ := h
          refine run_ok (pc' := 43) [(.aload_n 0, 0, 0, 0), (.getfield 38, 10, 6, 2), (.iload_n 1, 0, 0, 0), (.aaload, 6, 0, 0), (.astore_n 3, 0, 0, 0), (.aload_n 0, 0, 0, 0), (.getfield 52, 10, 10, 2), (.aload_n 0, 0, 0, 0), (.getfield 48, 10, 9, 2)] _ _ _ _ (by decide +kernel) ?_
          show _ ∧ (∃ _, _ ∧ (_ ∧ (∃ _, _ ∧ (_ ∧ (∃ _, _ ∧ (_ ∧ (∃ _, _ ∧ (_))))))))
          refine ⟨(((o_r0_10).mono hn1).mono hn2), a3, ea3, ib4, a4, ea4, (((o_r0_10).mono hn1).mono hn2), a5, ea5, (((o_r0_10).mono hn1).mono hn2), a6, ea6, ?_⟩
          show G Γ m_FB_run (d + 1) (0, 0) Q 43 [.ref r0, .int x1, .int x2, .ref a4] [.ref a6, .ref a5] μ2
          obtain ⟨o_a5_6, h⟩ := h
          refine g_invV (M' := m_Pi_copyFrom) (b1 := 0) (b2 := 0) (As := [.ref a6]) (a := a5) (st := []) lk_10_145 (by decide +kernel) rfl (dk_Pi_copyFrom d) (Nat.le_of_ble_eq_true rfl) (Or.inl ⟨6, o_a5_6, rfl⟩) h ?_
          rintro _ μ7 ⟨rfl, h⟩ hn7
          show G Γ m_FB_run (d + 1) (0, 0) Q 46 [.ref r0, .int x1, .int x2, .ref a4] [] μ7
          refine run_ok (pc' := 52) [(.iconst 0, 0, 0, 0), (.istore 4, 0, 0, 0), (.iconst 0, 0, 0, 0), (.istore 5, 0, 0, 0)] _ _ _ _ (by decide +kernel) ?_
          show G Γ m_FB_run (d + 1) (0, 0) Q 52 [.ref r0, .int x1, .int x2, .ref a4, .int (w 0), .int (w 0)] [] μ7
          exact g_wk (ls' := [.ref r0, jk, .int x2, .ref a4, .int (w 0), .int (w 0)]) ⟨Or.inr rfl, Or.inl rfl, Or.inr rfl, Or.inr rfl, Or.inr rfl, Or.inr rfl, trivial⟩ h
        · replace h := h.1 hc
          show G Γ m_FB_run (d + 1) (0, 0) Q 24 [.ref r0, .int x1, .int x2] [] μ2
          refine run_ok (pc' := 27) [(.ldc_w 311, 0, 0, (-1000000))] _ _ _ _ (by decide +kernel) ?_
          show G Γ m_FB_run (d + 1) (0, 0) Q 27 [.ref r0, .int x1, .int x2] [.int (w (-1000000))] μ2
          exact g_reti (by decide +kernel) rfl h
set_option maxRecDepth 100000 in
theorem B_FB_run_52 {Γ : XG} {d : Nat} {Q : Option Value → XM → Prop} {r0 r3 r0_10 : Nat} {x2 x4 x5 : Int32} {μ : XM} (o_r3_7 : ob μ r3 7) (o_r0_10 : ob μ r0 10) (e_r0_10 : xR μ r0 10 = some r0_10) (o_r0_10_6 : ob μ r0_10 6) (h : ((x5 < xI μ r3 4 → Call Γ m_FB_canBe d [.ref r0, .ref r0_10, .ref r3, .int x5] μ (KI (fun v1 μ1 => ((v1 = w 0 → ((x2 = w 1 → Q (some (.int x4)) μ1) ∧ (¬ x2 = w 1 → ((x5 < xI μ1 r3 4 → Q (some (.int x5)) μ1) ∧ (¬ x5 < xI μ1 r3 4 → Q (some (.int (w (-1)))) μ1))))) ∧ (¬ v1 = w 0 → ∃ a2, xR μ1 r3 0 = some a2 ∧ inb μ1 0 a2 x5 ∧ ((xI μ1 a2 x5.toNatClampNeg = w 1 → xR μ1 r0 10 = some r0_10 ∧ ∃ a6, xR μ1 r3 1 = some a6 ∧ inb μ1 0 a6 x5 ∧ Call Γ m_Pi_indexOf d [.ref r0_10, .int (xI μ1 a6 x5.toNatClampNeg)] μ1 (KI (fun v8 μ8 => Call Γ m_FB_valueOf d [.ref r0, .ref r0_10, .int v8] μ8 (KI (fun v9 μ9 => Call Γ m_FB_goApart d [.ref r0, .ref r3, .int x5] μ9 (KV (fun μ10 => G Γ m_FB_run (d + 1) (0, 0) Q 52 [.ref r0, jk, .int x2, .ref r3, .int (x4 + v9), .int (x5 + w 1)] [] μ10))))))) ∧ (¬ xI μ1 a2 x5.toNatClampNeg = w 1 → Call Γ m_FB_goApart d [.ref r0, .ref r3, .int x5] μ1 (KV (fun μ4 => G Γ m_FB_run (d + 1) (0, 0) Q 52 [.ref r0, jk, .int x2, .ref r3, .int x4, .int (x5 + w 1)] [] μ4))))))))) ∧ (¬ x5 < xI μ r3 4 → ((x2 = w 1 → Q (some (.int x4)) μ) ∧ (¬ x2 = w 1 → ((x5 < xI μ r3 4 → Q (some (.int x5)) μ) ∧ (¬ x5 < xI μ r3 4 → Q (some (.int (w (-1)))) μ))))))) : G Γ m_FB_run (d + 1) (0, 0) Q 52 [.ref r0, jk, .int x2, .ref r3, .int x4, .int x5] [] μ := by
  refine run_ok (pc' := 58) [(.iload 5, 0, 0, 0), (.aload_n 3, 0, 0, 0), (.getfield 310, 7, 4, 0)] _ _ _ _ (by decide +kernel) ?_
  show _ ∧ (_)
  refine ⟨o_r3_7, ?_⟩
  show G Γ m_FB_run (d + 1) (0, 0) Q 58 [.ref r0, jk, .int x2, .ref r3, .int x4, .int x5] [.int (xI μ r3 4), .int x5] μ
  refine g_icmp_ge (pc' := 126) (off := 68) (by decide) (by decide +kernel) (fun hc => ?_) (fun hc => ?_)
  · replace h := h.2 hc
    show G Γ m_FB_run (d + 1) (0, 0) Q 126 [.ref r0, jk, .int x2, .ref r3, .int x4, .int x5] [] μ
    refine run_ok (pc' := 128) [(.iload_n 2, 0, 0, 0), (.iconst 1, 0, 0, 0)] _ _ _ _ (by decide +kernel) ?_
    show G Γ m_FB_run (d + 1) (0, 0) Q 128 [.ref r0, jk, .int x2, .ref r3, .int x4, .int x5] [.int (w 1), .int x2] μ
    refine g_icmp_ne (pc' := 134) (off := 6) (by decide) (by decide +kernel) (fun hc => ?_) (fun hc => ?_)
    · replace h := h.2 hc
      show G Γ m_FB_run (d + 1) (0, 0) Q 134 [.ref r0, jk, .int x2, .ref r3, .int x4, .int x5] [] μ
      refine run_ok (pc' := 140) [(.iload 5, 0, 0, 0), (.aload_n 3, 0, 0, 0), (.getfield 310, 7, 4, 0)] _ _ _ _ (by decide +kernel) ?_
      show _ ∧ (_)
      refine ⟨o_r3_7, ?_⟩
      show G Γ m_FB_run (d + 1) (0, 0) Q 140 [.ref r0, jk, .int x2, .ref r3, .int x4, .int x5] [.int (xI μ r3 4), .int x5] μ
      refine g_icmp_ge (pc' := 148) (off := 8) (by decide) (by decide +kernel) (fun hc => ?_) (fun hc => ?_)
      · replace h := h.2 hc
        show G Γ m_FB_run (d + 1) (0, 0) Q 148 [.ref r0, jk, .int x2, .ref r3, .int x4, .int x5] [] μ
        refine run_ok (pc' := 149) [(.iconst (-1), 0, 0, 0)] _ _ _ _ (by decide +kernel) ?_
        show G Γ m_FB_run (d + 1) (0, 0) Q 149 [.ref r0, jk, .int x2, .ref r3, .int x4, .int x5] [.int (w (-1))] μ
        exact g_reti (by decide +kernel) rfl h
      · replace h := h.1 hc
        show G Γ m_FB_run (d + 1) (0, 0) Q 143 [.ref r0, jk, .int x2, .ref r3, .int x4, .int x5] [] μ
        refine run_ok (pc' := 149) [(.iload 5, 0, 0, 0), (.goto 4, 0, 0, 0)] _ _ _ _ (by decide +kernel) ?_
        show G Γ m_FB_run (d + 1) (0, 0) Q 149 [.ref r0, jk, .int x2, .ref r3, .int x4, .int x5] [.int x5] μ
        exact g_reti (by decide +kernel) rfl h
    · replace h := h.1 hc
      show G Γ m_FB_run (d + 1) (0, 0) Q 131 [.ref r0, jk, .int x2, .ref r3, .int x4, .int x5] [] μ
      refine run_ok (pc' := 133) [(.iload 4, 0, 0, 0)] _ _ _ _ (by decide +kernel) ?_
      show G Γ m_FB_run (d + 1) (0, 0) Q 133 [.ref r0, jk, .int x2, .ref r3, .int x4, .int x5] [.int x4] μ
      exact g_reti (by decide +kernel) rfl h
  · replace h := h.1 hc
    show G Γ m_FB_run (d + 1) (0, 0) Q 61 [.ref r0, jk, .int x2, .ref r3, .int x4, .int x5] [] μ
    refine run_ok (pc' := 69) [(.aload_n 0, 0, 0, 0), (.aload_n 0, 0, 0, 0), (.getfield 52, 10, 10, 2), (.aload_n 3, 0, 0, 0), (.iload 5, 0, 0, 0)] _ _ _ _ (by decide +kernel) ?_
    show _ ∧ (∃ _, _ ∧ (_))
    refine ⟨o_r0_10, r0_10, e_r0_10, ?_⟩
    show G Γ m_FB_run (d + 1) (0, 0) Q 69 [.ref r0, jk, .int x2, .ref r3, .int x4, .int x5] [.int x5, .ref r3, .ref r0_10, .ref r0] μ
    refine g_invV (M' := m_FB_canBe) (b1 := 0) (b2 := 0) (As := [.ref r0_10, .ref r3, .int x5]) (a := r0) (st := []) lk_10_313 (by decide +kernel) rfl (dk_FB_canBe d) (Nat.le_of_ble_eq_true rfl) (Or.inl ⟨10, o_r0_10, rfl⟩) h ?_
    rintro _ μ1 ⟨v1, rfl, h⟩ hn1
    show G Γ m_FB_run (d + 1) (0, 0) Q 72 [.ref r0, jk, .int x2, .ref r3, .int x4, .int x5] [.int v1] μ1
    refine g_ifz_eq (pc' := 126) (off := 54) (by decide) (by decide +kernel) (fun hc => ?_) (fun hc => ?_)
    · replace h := h.1 hc
      show G Γ m_FB_run (d + 1) (0, 0) Q 126 [.ref r0, jk, .int x2, .ref r3, .int x4, .int x5] [] μ1
      refine run_ok (pc' := 128) [(.iload_n 2, 0, 0, 0), (.iconst 1, 0, 0, 0)] _ _ _ _ (by decide +kernel) ?_
      show G Γ m_FB_run (d + 1) (0, 0) Q 128 [.ref r0, jk, .int x2, .ref r3, .int x4, .int x5] [.int (w 1), .int x2] μ1
      refine g_icmp_ne (pc' := 134) (off := 6) (by decide) (by decide +kernel) (fun hc => ?_) (fun hc => ?_)
      · replace h := h.2 hc
        show G Γ m_FB_run (d + 1) (0, 0) Q 134 [.ref r0, jk, .int x2, .ref r3, .int x4, .int x5] [] μ1
        refine run_ok (pc' := 140) [(.iload 5, 0, 0, 0), (.aload_n 3, 0, 0, 0), (.getfield 310, 7, 4, 0)] _ _ _ _ (by decide +kernel) ?_
        show _ ∧ (_)
        refine ⟨((o_r3_7).mono hn1), ?_⟩
        show G Γ m_FB_run (d + 1) (0, 0) Q 140 [.ref r0, jk, .int x2, .ref r3, .int x4, .int x5] [.int (xI μ1 r3 4), .int x5] μ1
        refine g_icmp_ge (pc' := 148) (off := 8) (by decide) (by decide +kernel) (fun hc => ?_) (fun hc => ?_)
        · replace h := h.2 hc
          show G Γ m_FB_run (d + 1) (0, 0) Q 148 [.ref r0, jk, .int x2, .ref r3, .int x4, .int x5] [] μ1
          refine run_ok (pc' := 149) [(.iconst (-1), 0, 0, 0)] _ _ _ _ (by decide +kernel) ?_
          show G Γ m_FB_run (d + 1) (0, 0) Q 149 [.ref r0, jk, .int x2, .ref r3, .int x4, .int x5] [.int (w (-1))] μ1
          exact g_reti (by decide +kernel) rfl h
        · replace h := h.1 hc
          show G Γ m_FB_run (d + 1) (0, 0) Q 143 [.ref r0, jk, .int x2, .ref r3, .int x4, .int x5] [] μ1
          refine run_ok (pc' := 149) [(.iload 5, 0, 0, 0), (.goto 4, 0, 0, 0)] _ _ _ _ (by decide +kernel) ?_
          show G Γ m_FB_run (d + 1) (0, 0) Q 149 [.ref r0, jk, .int x2, .ref r3, .int x4, .int x5] [.int x5] μ1
          exact g_reti (by decide +kernel) rfl h
      · replace h := h.1 hc
        show G Γ m_FB_run (d + 1) (0, 0) Q 131 [.ref r0, jk, .int x2, .ref r3, .int x4, .int x5] [] μ1
        refine run_ok (pc' := 133) [(.iload 4, 0, 0, 0)] _ _ _ _ (by decide +kernel) ?_
        show G Γ m_FB_run (d + 1) (0, 0) Q 133 [.ref r0, jk, .int x2, .ref r3, .int x4, .int x5] [.int x4] μ1
        exact g_reti (by decide +kernel) rfl h
    · replace h := h.2 hc
      show G Γ m_FB_run (d + 1) (0, 0) Q 75 [.ref r0, jk, .int x2, .ref r3, .int x4, .int x5] [] μ1
      obtain ⟨a2, ea2, h⟩ := h
      obtain ⟨ib3, h⟩ := h
      refine run_ok (pc' := 83) [(.aload_n 3, 0, 0, 0), (.getfield 317, 7, 0, 2), (.iload 5, 0, 0, 0), (.iaload, 0, 0, 0), (.iconst 1, 0, 0, 0)] _ _ _ _ (by decide +kernel) ?_
      show _ ∧ (∃ _, _ ∧ (_ ∧ (_)))
      refine ⟨((o_r3_7).mono hn1), a2, ea2, ib3, ?_⟩
      show G Γ m_FB_run (d + 1) (0, 0) Q 83 [.ref r0, jk, .int x2, .ref r3, .int x4, .int x5] [.int (w 1), .int (xI μ1 a2 x5.toNatClampNeg)] μ1
      refine g_icmp_ne (pc' := 113) (off := 30) (by decide) (by decide +kernel) (fun hc => ?_) (fun hc => ?_)
      · replace h := h.2 hc
        show G Γ m_FB_run (d + 1) (0, 0) Q 113 [.ref r0, jk, .int x2, .ref r3, .int x4, .int x5] [] μ1
        refine run_ok (pc' := 117) [(.aload_n 0, 0, 0, 0), (.aload_n 3, 0, 0, 0), (.iload 5, 0, 0, 0)] _ _ _ _ (by decide +kernel) ?_
        show G Γ m_FB_run (d + 1) (0, 0) Q 117 [.ref r0, jk, .int x2, .ref r3, .int x4, .int x5] [.int x5, .ref r3, .ref r0] μ1
        refine g_invV (M' := m_FB_goApart) (b1 := 0) (b2 := 0) (As := [.ref r3, .int x5]) (a := r0) (st := []) lk_10_323 (by decide +kernel) rfl (dk_FB_goApart d) (Nat.le_of_ble_eq_true rfl) (Or.inl ⟨10, ((o_r0_10).mono hn1), rfl⟩) h ?_
        rintro _ μ4 ⟨rfl, h⟩ hn4
        show G Γ m_FB_run (d + 1) (0, 0) Q 120 [.ref r0, jk, .int x2, .ref r3, .int x4, .int x5] [] μ4
        refine run_ok (pc' := 52) [(.iinc 5 1, 0, 0, 0), (.goto (-71), 0, 0, 0)] _ _ _ _ (by decide +kernel) ?_
        show G Γ m_FB_run (d + 1) (0, 0) Q 52 [.ref r0, jk, .int x2, .ref r3, .int x4, .int (x5 + w 1)] [] μ4
        exact h
      · replace h := h.1 hc
        show G Γ m_FB_run (d + 1) (0, 0) Q 86 [.ref r0, jk, .int x2, .ref r3, .int x4, .int x5] [] μ1
        obtain ⟨ea5, h⟩ := h
        obtain ⟨a6, ea6, h⟩ := h
        obtain ⟨ib7, h⟩ := h
        refine run_ok (pc' := 104) [(.iload 4, 0, 0, 0), (.aload_n 0, 0, 0, 0), (.aload_n 0, 0, 0, 0), (.getfield 52, 10, 10, 2), (.aload_n 0, 0, 0, 0), (.getfield 52, 10, 10, 2), (.aload_n 3, 0, 0, 0), (.getfield 320, 7, 1, 2), (.iload 5, 0, 0, 0), (.iaload, 0, 0, 0)] _ _ _ _ (by decide +kernel) ?_
        show _ ∧ (∃ _, _ ∧ (_ ∧ (∃ _, _ ∧ (_ ∧ (∃ _, _ ∧ (_ ∧ (_)))))))
        refine ⟨((o_r0_10).mono hn1), r0_10, ea5, ((o_r0_10).mono hn1), r0_10, ea5, ((o_r3_7).mono hn1), a6, ea6, ib7, ?_⟩
        show G Γ m_FB_run (d + 1) (0, 0) Q 104 [.ref r0, jk, .int x2, .ref r3, .int x4, .int x5] [.int (xI μ1 a6 x5.toNatClampNeg), .ref r0_10, .ref r0_10, .ref r0, .int x4] μ1
        refine g_invV (M' := m_Pi_indexOf) (b1 := 0) (b2 := 0) (As := [.int (xI μ1 a6 x5.toNatClampNeg)]) (a := r0_10) (st := [.ref r0_10, .ref r0, .int x4]) lk_10_182 (by decide +kernel) rfl (dk_Pi_indexOf d) (Nat.le_of_ble_eq_true rfl) (Or.inl ⟨6, ((o_r0_10_6).mono hn1), rfl⟩) h ?_
        rintro _ μ8 ⟨v8, rfl, h⟩ hn8
        show G Γ m_FB_run (d + 1) (0, 0) Q 107 [.ref r0, jk, .int x2, .ref r3, .int x4, .int x5] [.int v8, .ref r0_10, .ref r0, .int x4] μ8
        refine g_invV (M' := m_FB_valueOf) (b1 := 0) (b2 := 0) (As := [.ref r0_10, .int v8]) (a := r0) (st := [.int x4]) lk_10_196 (by decide +kernel) rfl (dk_FB_valueOf d) (Nat.le_of_ble_eq_true rfl) (Or.inl ⟨10, (((o_r0_10).mono hn1).mono hn8), rfl⟩) h ?_
        rintro _ μ9 ⟨v9, rfl, h⟩ hn9
        show G Γ m_FB_run (d + 1) (0, 0) Q 110 [.ref r0, jk, .int x2, .ref r3, .int x4, .int x5] [.int v9, .int x4] μ9
        refine run_ok (pc' := 117) [(.iadd, 0, 0, 0), (.istore 4, 0, 0, 0), (.aload_n 0, 0, 0, 0), (.aload_n 3, 0, 0, 0), (.iload 5, 0, 0, 0)] _ _ _ _ (by decide +kernel) ?_
        show G Γ m_FB_run (d + 1) (0, 0) Q 117 [.ref r0, jk, .int x2, .ref r3, .int (x4 + v9), .int x5] [.int x5, .ref r3, .ref r0] μ9
        refine g_invV (M' := m_FB_goApart) (b1 := 0) (b2 := 0) (As := [.ref r3, .int x5]) (a := r0) (st := []) lk_10_323 (by decide +kernel) rfl (dk_FB_goApart d) (Nat.le_of_ble_eq_true rfl) (Or.inl ⟨10, ((((o_r0_10).mono hn1).mono hn8).mono hn9), rfl⟩) h ?_
        rintro _ μ10 ⟨rfl, h⟩ hn10
        show G Γ m_FB_run (d + 1) (0, 0) Q 120 [.ref r0, jk, .int x2, .ref r3, .int (x4 + v9), .int x5] [] μ10
        refine run_ok (pc' := 52) [(.iinc 5 1, 0, 0, 0), (.goto (-71), 0, 0, 0)] _ _ _ _ (by decide +kernel) ?_
        show G Γ m_FB_run (d + 1) (0, 0) Q 52 [.ref r0, jk, .int x2, .ref r3, .int (x4 + v9), .int (x5 + w 1)] [] μ10
        exact h
/-! FrostBox canBe(LFrostBox$Pile;LFrostBox$Plan;I)Z -/
set_option maxRecDepth 100000 in
theorem B_FB_canBe_0 {Γ : XG} {d : Nat} {Q : Option Value → XM → Prop} {r0 r1 r2 r2_1 r2_0 r2_2 : Nat} {x3 : Int32} {μ : XM} (o_r2_7 : ob μ r2 7) (e_r2_1 : xR μ r2 1 = some r2_1) (e_r2_0 : xR μ r2 0 = some r2_0) (e_r2_2 : xR μ r2 2 = some r2_2) (o_r0_10 : ob μ r0 10) (o_r1_6 : ob μ r1 6) (h : inb μ 0 r2_1 x3 ∧ inb μ 0 r2_0 x3 ∧ (((xI μ r2_0 x3.toNatClampNeg < w 0 ∨ w 3 < xI μ r2_0 x3.toNatClampNeg) → ((xI μ r2_1 x3.toNatClampNeg < w 1 → Q (some (.int (w 0))) μ) ∧ (¬ xI μ r2_1 x3.toNatClampNeg < w 1 → Q (some (.int (w 1))) μ))) ∧ (xI μ r2_0 x3.toNatClampNeg = w 0 → inb μ 0 r2_2 x3 ∧ Call Γ m_FB_canPut d [.ref r0, .ref r1, .int (xI μ r2_1 x3.toNatClampNeg), .int (xI μ r2_2 x3.toNatClampNeg)] μ (KI (fun v4 μ4 => ((v4 = w 0 ∨ v4 = w 1) ∧ Q (some (.int v4)) μ4)))) ∧ (xI μ r2_0 x3.toNatClampNeg = w 1 → Call Γ m_Pi_hasPlace d [.ref r1, .int (xI μ r2_1 x3.toNatClampNeg)] μ (KI (fun v5 μ5 => ((v5 = w 0 ∨ v5 = w 1) ∧ Q (some (.int v5)) μ5)))) ∧ (xI μ r2_0 x3.toNatClampNeg = w 2 → Call Γ m_Pi_hasPlace d [.ref r1, .int (xI μ r2_1 x3.toNatClampNeg)] μ (KI (fun v6 μ6 => ((v6 = w 0 → Q (some (.int (w 0))) μ6) ∧ (¬ v6 = w 0 → Call Γ m_Pi_indexOf d [.ref r1, .int (xI μ r2_1 x3.toNatClampNeg)] μ6 (KI (fun v7 μ7 => Call Γ m_Pi_hasLabel d [.ref r1, .int v7] μ7 (KI (fun v8 μ8 => ((v8 = w 0 → Q (some (.int (w 1))) μ8) ∧ (¬ v8 = w 0 → Q (some (.int (w 0))) μ8))))))))))) ∧ (xI μ r2_0 x3.toNatClampNeg = w 3 → ((xI μ r2_1 x3.toNatClampNeg < w 1 → Q (some (.int (w 0))) μ) ∧ (¬ xI μ r2_1 x3.toNatClampNeg < w 1 → ((w 999 < (xI μ r1 5) + (xI μ r2_1 x3.toNatClampNeg) → Q (some (.int (w 0))) μ) ∧ (¬ w 999 < (xI μ r1 5) + (xI μ r2_1 x3.toNatClampNeg) → Q (some (.int (w 1))) μ))))))) : G Γ m_FB_canBe (d + 1) (0, 0) Q 0 [.ref r0, .ref r1, .ref r2, .int x3] [] μ := by
  obtain ⟨ib1, h⟩ := h
  obtain ⟨ib2, h⟩ := h
  refine run_ok (pc' := 14) [(.aload_n 2, 0, 0, 0), (.getfield 320, 7, 1, 2), (.iload_n 3, 0, 0, 0), (.iaload, 0, 0, 0), (.istore 4, 0, 0, 0), (.aload_n 2, 0, 0, 0), (.getfield 317, 7, 0, 2), (.iload_n 3, 0, 0, 0), (.iaload, 0, 0, 0)] _ _ _ _ (by decide +kernel) ?_
  show _ ∧ (∃ _, _ ∧ (_ ∧ (_ ∧ (∃ _, _ ∧ (_ ∧ (_))))))
  refine ⟨o_r2_7, r2_1, e_r2_1, ib1, o_r2_7, r2_0, e_r2_0, ib2, ?_⟩
  show G Γ m_FB_canBe (d + 1) (0, 0) Q 14 [.ref r0, .ref r1, .ref r2, .int x3, .int (xI μ r2_1 x3.toNatClampNeg)] [.int (xI μ r2_0 x3.toNatClampNeg)] μ
  refine g_sw (df := 104) (lo := 0) (n := 4) (offs := #[30, 44, 51, 79]) (len := 30) (by decide +kernel) (by decide) (pd := 118) (by decide) (fun hc => ?_) (fun k hk hc => ?_)
  · replace h := h.1 hc
    show G Γ m_FB_canBe (d + 1) (0, 0) Q 118 [.ref r0, .ref r1, .ref r2, .int x3, .int (xI μ r2_1 x3.toNatClampNeg)] [] μ
    refine run_ok (pc' := 121) [(.iload 4, 0, 0, 0), (.iconst 1, 0, 0, 0)] _ _ _ _ (by decide +kernel) ?_
    show G Γ m_FB_canBe (d + 1) (0, 0) Q 121 [.ref r0, .ref r1, .ref r2, .int x3, .int (xI μ r2_1 x3.toNatClampNeg)] [.int (w 1), .int (xI μ r2_1 x3.toNatClampNeg)] μ
    refine g_icmp_lt (pc' := 128) (off := 7) (by decide) (by decide +kernel) (fun hc => ?_) (fun hc => ?_)
    · replace h := h.1 hc
      show G Γ m_FB_canBe (d + 1) (0, 0) Q 128 [.ref r0, .ref r1, .ref r2, .int x3, .int (xI μ r2_1 x3.toNatClampNeg)] [] μ
      refine run_ok (pc' := 129) [(.iconst 0, 0, 0, 0)] _ _ _ _ (by decide +kernel) ?_
      show G Γ m_FB_canBe (d + 1) (0, 0) Q 129 [.ref r0, .ref r1, .ref r2, .int x3, .int (xI μ r2_1 x3.toNatClampNeg)] [.int (w 0)] μ
      exact g_retz (by decide +kernel) rfl (Or.inl rfl) h
    · replace h := h.2 hc
      show G Γ m_FB_canBe (d + 1) (0, 0) Q 124 [.ref r0, .ref r1, .ref r2, .int x3, .int (xI μ r2_1 x3.toNatClampNeg)] [] μ
      refine run_ok (pc' := 129) [(.iconst 1, 0, 0, 0), (.goto 4, 0, 0, 0)] _ _ _ _ (by decide +kernel) ?_
      show G Γ m_FB_canBe (d + 1) (0, 0) Q 129 [.ref r0, .ref r1, .ref r2, .int x3, .int (xI μ r2_1 x3.toNatClampNeg)] [.int (w 1)] μ
      exact g_retz (by decide +kernel) rfl (Or.inr rfl) h
  · replace h := h.2
    match k, hk, hc with
    | 0, _, hc =>
      replace h := h.1 hc
      refine ⟨44, 30, rfl, by decide, ?_⟩
      show G Γ m_FB_canBe (d + 1) (0, 0) Q 44 [.ref r0, .ref r1, .ref r2, .int x3, .int (xI μ r2_1 x3.toNatClampNeg)] [] μ
      obtain ⟨ib3, h⟩ := h
      refine run_ok (pc' := 54) [(.aload_n 0, 0, 0, 0), (.aload_n 1, 0, 0, 0), (.iload 4, 0, 0, 0), (.aload_n 2, 0, 0, 0), (.getfield 327, 7, 2, 2), (.iload_n 3, 0, 0, 0), (.iaload, 0, 0, 0)] _ _ _ _ (by decide +kernel) ?_
      show _ ∧ (∃ _, _ ∧ (_ ∧ (_)))
      refine ⟨o_r2_7, r2_2, e_r2_2, ib3, ?_⟩
      show G Γ m_FB_canBe (d + 1) (0, 0) Q 54 [.ref r0, .ref r1, .ref r2, .int x3, .int (xI μ r2_1 x3.toNatClampNeg)] [.int (xI μ r2_2 x3.toNatClampNeg), .int (xI μ r2_1 x3.toNatClampNeg), .ref r1, .ref r0] μ
      refine g_invV (M' := m_FB_canPut) (b1 := 0) (b2 := 0) (As := [.ref r1, .int (xI μ r2_1 x3.toNatClampNeg), .int (xI μ r2_2 x3.toNatClampNeg)]) (a := r0) (st := []) lk_10_244 (by decide +kernel) rfl (dk_FB_canPut d) (Nat.le_of_ble_eq_true rfl) (Or.inl ⟨10, o_r0_10, rfl⟩) h ?_
      rintro _ μ4 ⟨v4, rfl, h⟩ hn4
      show G Γ m_FB_canBe (d + 1) (0, 0) Q 57 [.ref r0, .ref r1, .ref r2, .int x3, .int (xI μ r2_1 x3.toNatClampNeg)] [.int v4] μ4
      exact g_retz (by decide +kernel) rfl h.1 h.2
    | 1, _, hc =>
      replace h := h.2.1 hc
      refine ⟨58, 44, rfl, by decide, ?_⟩
      show G Γ m_FB_canBe (d + 1) (0, 0) Q 58 [.ref r0, .ref r1, .ref r2, .int x3, .int (xI μ r2_1 x3.toNatClampNeg)] [] μ
      refine run_ok (pc' := 61) [(.aload_n 1, 0, 0, 0), (.iload 4, 0, 0, 0)] _ _ _ _ (by decide +kernel) ?_
      show G Γ m_FB_canBe (d + 1) (0, 0) Q 61 [.ref r0, .ref r1, .ref r2, .int x3, .int (xI μ r2_1 x3.toNatClampNeg)] [.int (xI μ r2_1 x3.toNatClampNeg), .ref r1] μ
      refine g_invV (M' := m_Pi_hasPlace) (b1 := 0) (b2 := 0) (As := [.int (xI μ r2_1 x3.toNatClampNeg)]) (a := r1) (st := []) lk_10_176 (by decide +kernel) rfl (dk_Pi_hasPlace d) (Nat.le_of_ble_eq_true rfl) (Or.inl ⟨6, o_r1_6, rfl⟩) h ?_
      rintro _ μ5 ⟨v5, rfl, h⟩ hn5
      show G Γ m_FB_canBe (d + 1) (0, 0) Q 64 [.ref r0, .ref r1, .ref r2, .int x3, .int (xI μ r2_1 x3.toNatClampNeg)] [.int v5] μ5
      exact g_retz (by decide +kernel) rfl h.1 h.2
    | 2, _, hc =>
      replace h := h.2.2.1 hc
      refine ⟨65, 51, rfl, by decide, ?_⟩
      show G Γ m_FB_canBe (d + 1) (0, 0) Q 65 [.ref r0, .ref r1, .ref r2, .int x3, .int (xI μ r2_1 x3.toNatClampNeg)] [] μ
      refine run_ok (pc' := 68) [(.aload_n 1, 0, 0, 0), (.iload 4, 0, 0, 0)] _ _ _ _ (by decide +kernel) ?_
      show G Γ m_FB_canBe (d + 1) (0, 0) Q 68 [.ref r0, .ref r1, .ref r2, .int x3, .int (xI μ r2_1 x3.toNatClampNeg)] [.int (xI μ r2_1 x3.toNatClampNeg), .ref r1] μ
      refine g_invV (M' := m_Pi_hasPlace) (b1 := 0) (b2 := 0) (As := [.int (xI μ r2_1 x3.toNatClampNeg)]) (a := r1) (st := []) lk_10_176 (by decide +kernel) rfl (dk_Pi_hasPlace d) (Nat.le_of_ble_eq_true rfl) (Or.inl ⟨6, o_r1_6, rfl⟩) h ?_
      rintro _ μ6 ⟨v6, rfl, h⟩ hn6
      show G Γ m_FB_canBe (d + 1) (0, 0) Q 71 [.ref r0, .ref r1, .ref r2, .int x3, .int (xI μ r2_1 x3.toNatClampNeg)] [.int v6] μ6
      refine g_ifz_eq (pc' := 91) (off := 20) (by decide) (by decide +kernel) (fun hc => ?_) (fun hc => ?_)
      · replace h := h.1 hc
        show G Γ m_FB_canBe (d + 1) (0, 0) Q 91 [.ref r0, .ref r1, .ref r2, .int x3, .int (xI μ r2_1 x3.toNatClampNeg)] [] μ6
        refine run_ok (pc' := 92) [(.iconst 0, 0, 0, 0)] _ _ _ _ (by decide +kernel) ?_
        show G Γ m_FB_canBe (d + 1) (0, 0) Q 92 [.ref r0, .ref r1, .ref r2, .int x3, .int (xI μ r2_1 x3.toNatClampNeg)] [.int (w 0)] μ6
        exact g_retz (by decide +kernel) rfl (Or.inl rfl) h
      · replace h := h.2 hc
        show G Γ m_FB_canBe (d + 1) (0, 0) Q 74 [.ref r0, .ref r1, .ref r2, .int x3, .int (xI μ r2_1 x3.toNatClampNeg)] [] μ6
        refine run_ok (pc' := 78) [(.aload_n 1, 0, 0, 0), (.aload_n 1, 0, 0, 0), (.iload 4, 0, 0, 0)] _ _ _ _ (by decide +kernel) ?_
        show G Γ m_FB_canBe (d + 1) (0, 0) Q 78 [.ref r0, .ref r1, .ref r2, .int x3, .int (xI μ r2_1 x3.toNatClampNeg)] [.int (xI μ r2_1 x3.toNatClampNeg), .ref r1, .ref r1] μ6
        refine g_invV (M' := m_Pi_indexOf) (b1 := 0) (b2 := 0) (As := [.int (xI μ r2_1 x3.toNatClampNeg)]) (a := r1) (st := [.ref r1]) lk_10_182 (by decide +kernel) rfl (dk_Pi_indexOf d) (Nat.le_of_ble_eq_true rfl) (Or.inl ⟨6, ((o_r1_6).mono hn6), rfl⟩) h ?_
        rintro _ μ7 ⟨v7, rfl, h⟩ hn7
        show G Γ m_FB_canBe (d + 1) (0, 0) Q 81 [.ref r0, .ref r1, .ref r2, .int x3, .int (xI μ r2_1 x3.toNatClampNeg)] [.int v7, .ref r1] μ7
        refine g_invV (M' := m_Pi_hasLabel) (b1 := 0) (b2 := 0) (As := [.int v7]) (a := r1) (st := []) lk_10_193 (by decide +kernel) rfl (dk_Pi_hasLabel d) (Nat.le_of_ble_eq_true rfl) (Or.inl ⟨6, (((o_r1_6).mono hn6).mono hn7), rfl⟩) h ?_
        rintro _ μ8 ⟨v8, rfl, h⟩ hn8
        show G Γ m_FB_canBe (d + 1) (0, 0) Q 84 [.ref r0, .ref r1, .ref r2, .int x3, .int (xI μ r2_1 x3.toNatClampNeg)] [.int v8] μ8
        refine g_ifz_ne (pc' := 91) (off := 7) (by decide) (by decide +kernel) (fun hc => ?_) (fun hc => ?_)
        · replace h := h.2 hc
          show G Γ m_FB_canBe (d + 1) (0, 0) Q 91 [.ref r0, .ref r1, .ref r2, .int x3, .int (xI μ r2_1 x3.toNatClampNeg)] [] μ8
          refine run_ok (pc' := 92) [(.iconst 0, 0, 0, 0)] _ _ _ _ (by decide +kernel) ?_
          show G Γ m_FB_canBe (d + 1) (0, 0) Q 92 [.ref r0, .ref r1, .ref r2, .int x3, .int (xI μ r2_1 x3.toNatClampNeg)] [.int (w 0)] μ8
          exact g_retz (by decide +kernel) rfl (Or.inl rfl) h
        · replace h := h.1 hc
          show G Γ m_FB_canBe (d + 1) (0, 0) Q 87 [.ref r0, .ref r1, .ref r2, .int x3, .int (xI μ r2_1 x3.toNatClampNeg)] [] μ8
          refine run_ok (pc' := 92) [(.iconst 1, 0, 0, 0), (.goto 4, 0, 0, 0)] _ _ _ _ (by decide +kernel) ?_
          show G Γ m_FB_canBe (d + 1) (0, 0) Q 92 [.ref r0, .ref r1, .ref r2, .int x3, .int (xI μ r2_1 x3.toNatClampNeg)] [.int (w 1)] μ8
          exact g_retz (by decide +kernel) rfl (Or.inr rfl) h
    | 3, _, hc =>
      replace h := h.2.2.2 hc
      refine ⟨93, 79, rfl, by decide, ?_⟩
      show G Γ m_FB_canBe (d + 1) (0, 0) Q 93 [.ref r0, .ref r1, .ref r2, .int x3, .int (xI μ r2_1 x3.toNatClampNeg)] [] μ
      refine run_ok (pc' := 96) [(.iload 4, 0, 0, 0), (.iconst 1, 0, 0, 0)] _ _ _ _ (by decide +kernel) ?_
      show G Γ m_FB_canBe (d + 1) (0, 0) Q 96 [.ref r0, .ref r1, .ref r2, .int x3, .int (xI μ r2_1 x3.toNatClampNeg)] [.int (w 1), .int (xI μ r2_1 x3.toNatClampNeg)] μ
      refine g_icmp_lt (pc' := 116) (off := 20) (by decide) (by decide +kernel) (fun hc => ?_) (fun hc => ?_)
      · replace h := h.1 hc
        show G Γ m_FB_canBe (d + 1) (0, 0) Q 116 [.ref r0, .ref r1, .ref r2, .int x3, .int (xI μ r2_1 x3.toNatClampNeg)] [] μ
        refine run_ok (pc' := 117) [(.iconst 0, 0, 0, 0)] _ _ _ _ (by decide +kernel) ?_
        show G Γ m_FB_canBe (d + 1) (0, 0) Q 117 [.ref r0, .ref r1, .ref r2, .int x3, .int (xI μ r2_1 x3.toNatClampNeg)] [.int (w 0)] μ
        exact g_retz (by decide +kernel) rfl (Or.inl rfl) h
      · replace h := h.2 hc
        show G Γ m_FB_canBe (d + 1) (0, 0) Q 99 [.ref r0, .ref r1, .ref r2, .int x3, .int (xI μ r2_1 x3.toNatClampNeg)] [] μ
        refine run_ok (pc' := 109) [(.aload_n 1, 0, 0, 0), (.getfield 209, 6, 5, 0), (.iload 4, 0, 0, 0), (.iadd, 0, 0, 0), (.sipush 999, 0, 0, 0)] _ _ _ _ (by decide +kernel) ?_
        show _ ∧ (_)
        refine ⟨o_r1_6, ?_⟩
        show G Γ m_FB_canBe (d + 1) (0, 0) Q 109 [.ref r0, .ref r1, .ref r2, .int x3, .int (xI μ r2_1 x3.toNatClampNeg)] [.int (w 999), .int ((xI μ r1 5) + (xI μ r2_1 x3.toNatClampNeg))] μ
        refine g_icmp_gt (pc' := 116) (off := 7) (by decide) (by decide +kernel) (fun hc => ?_) (fun hc => ?_)
        · replace h := h.1 hc
          show G Γ m_FB_canBe (d + 1) (0, 0) Q 116 [.ref r0, .ref r1, .ref r2, .int x3, .int (xI μ r2_1 x3.toNatClampNeg)] [] μ
          refine run_ok (pc' := 117) [(.iconst 0, 0, 0, 0)] _ _ _ _ (by decide +kernel) ?_
          show G Γ m_FB_canBe (d + 1) (0, 0) Q 117 [.ref r0, .ref r1, .ref r2, .int x3, .int (xI μ r2_1 x3.toNatClampNeg)] [.int (w 0)] μ
          exact g_retz (by decide +kernel) rfl (Or.inl rfl) h
        · replace h := h.2 hc
          show G Γ m_FB_canBe (d + 1) (0, 0) Q 112 [.ref r0, .ref r1, .ref r2, .int x3, .int (xI μ r2_1 x3.toNatClampNeg)] [] μ
          refine run_ok (pc' := 117) [(.iconst 1, 0, 0, 0), (.goto 4, 0, 0, 0)] _ _ _ _ (by decide +kernel) ?_
          show G Γ m_FB_canBe (d + 1) (0, 0) Q 117 [.ref r0, .ref r1, .ref r2, .int x3, .int (xI μ r2_1 x3.toNatClampNeg)] [.int (w 1)] μ
          exact g_retz (by decide +kernel) rfl (Or.inr rfl) h
    | k + 4, hk, _ => exact absurd hk (by omega)
/-! FrostBox goApart(LFrostBox$Plan;I)V -/
set_option maxRecDepth 100000 in
theorem B_FB_goApart_0 {Γ : XG} {d : Nat} {Q : Option Value → XM → Prop} {r0 r1 r1_1 r1_0 r0_10 r1_2 r1_3 : Nat} {x2 : Int32} {μ : XM} (o_r1_7 : ob μ r1 7) (e_r1_1 : xR μ r1 1 = some r1_1) (e_r1_0 : xR μ r1 0 = some r1_0) (o_r0_10 : ob μ r0 10) (e_r0_10 : xR μ r0 10 = some r0_10) (o_r0_10_6 : ob μ r0_10 6) (e_r1_2 : xR μ r1 2 = some r1_2) (e_r1_3 : xR μ r1 3 = some r1_3) (h : inb μ 0 r1_1 x2 ∧ inb μ 0 r1_0 x2 ∧ (((xI μ r1_0 x2.toNatClampNeg < w 0 ∨ w 3 < xI μ r1_0 x2.toNatClampNeg) → Call Γ m_FB_hoursTooMany d [.ref r0, .ref r0_10, .int (xI μ r1_1 x2.toNatClampNeg)] μ (KI (fun v3 μ3 => Call Γ m_Pi_growOlder d [.ref r0_10, .int v3] μ3 (KV (fun μ4 => Q none μ4))))) ∧ (xI μ r1_0 x2.toNatClampNeg = w 0 → inb μ 0 r1_2 x2 ∧ inb μ 0 r1_3 x2 ∧ ((xI μ r1_3 x2.toNatClampNeg = w 1 → Call Γ m_Pi_push d [.ref r0_10, .int (xI μ r1_1 x2.toNatClampNeg), .int (xI μ r1_2 x2.toNatClampNeg), .int (w 0), .int (xI μ r0_10 5)] μ (KV (fun μ8 => Q none μ8))) ∧ (¬ xI μ r1_3 x2.toNatClampNeg = w 1 → Call Γ m_Pi_push d [.ref r0_10, .int (xI μ r1_1 x2.toNatClampNeg), .int (xI μ r1_2 x2.toNatClampNeg), .int (w 0), .int (w (-1))] μ (KV (fun μ7 => Q none μ7))))) ∧ (xI μ r1_0 x2.toNatClampNeg = w 1 → Call Γ m_Pi_indexOf d [.ref r0_10, .int (xI μ r1_1 x2.toNatClampNeg)] μ (KI (fun v9 μ9 => Call Γ m_Pi_remove d [.ref r0_10, .int v9] μ9 (KV (fun μ10 => Q none μ10))))) ∧ (xI μ r1_0 x2.toNatClampNeg = w 2 → Call Γ m_Pi_indexOf d [.ref r0_10, .int (xI μ r1_1 x2.toNatClampNeg)] μ (KI (fun v11 μ11 => Call Γ m_Pi_putLabel d [.ref r0_10, .int v11] μ11 (KV (fun μ12 => Q none μ12))))) ∧ (xI μ r1_0 x2.toNatClampNeg = w 3 → G Γ m_FB_goApart (d + 1) (0, 0) Q 122 [.ref r0, jk, jk, .int (xI μ r1_1 x2.toNatClampNeg), .int (w 0)] [] μ))) : G Γ m_FB_goApart (d + 1) (0, 0) Q 0 [.ref r0, .ref r1, .int x2] [] μ := by
  obtain ⟨ib1, h⟩ := h
  obtain ⟨ib2, h⟩ := h
  refine run_ok (pc' := 13) [(.aload_n 1, 0, 0, 0), (.getfield 320, 7, 1, 2), (.iload_n 2, 0, 0, 0), (.iaload, 0, 0, 0), (.istore_n 3, 0, 0, 0), (.aload_n 1, 0, 0, 0), (.getfield 317, 7, 0, 2), (.iload_n 2, 0, 0, 0), (.iaload, 0, 0, 0)] _ _ _ _ (by decide +kernel) ?_
  show _ ∧ (∃ _, _ ∧ (_ ∧ (_ ∧ (∃ _, _ ∧ (_ ∧ (_))))))
  refine ⟨o_r1_7, r1_1, e_r1_1, ib1, o_r1_7, r1_0, e_r1_0, ib2, ?_⟩
  show G Γ m_FB_goApart (d + 1) (0, 0) Q 13 [.ref r0, .ref r1, .int x2, .int (xI μ r1_1 x2.toNatClampNeg)] [.int (xI μ r1_0 x2.toNatClampNeg)] μ
  refine g_sw (df := 140) (lo := 0) (n := 4) (offs := #[31, 70, 88, 106]) (len := 31) (by decide +kernel) (by decide) (pd := 153) (by decide) (fun hc => ?_) (fun k hk hc => ?_)
  · replace h := h.1 hc
    show G Γ m_FB_goApart (d + 1) (0, 0) Q 153 [.ref r0, .ref r1, .int x2, .int (xI μ r1_1 x2.toNatClampNeg)] [] μ
    refine run_ok (pc' := 163) [(.aload_n 0, 0, 0, 0), (.getfield 52, 10, 10, 2), (.aload_n 0, 0, 0, 0), (.aload_n 0, 0, 0, 0), (.getfield 52, 10, 10, 2), (.iload_n 3, 0, 0, 0)] _ _ _ _ (by decide +kernel) ?_
    show _ ∧ (∃ _, _ ∧ (_ ∧ (∃ _, _ ∧ (_))))
    refine ⟨o_r0_10, r0_10, e_r0_10, o_r0_10, r0_10, e_r0_10, ?_⟩
    show G Γ m_FB_goApart (d + 1) (0, 0) Q 163 [.ref r0, .ref r1, .int x2, .int (xI μ r1_1 x2.toNatClampNeg)] [.int (xI μ r1_1 x2.toNatClampNeg), .ref r0_10, .ref r0, .ref r0_10] μ
    refine g_invV (M' := m_FB_hoursTooMany) (b1 := 0) (b2 := 0) (As := [.ref r0_10, .int (xI μ r1_1 x2.toNatClampNeg)]) (a := r0) (st := [.ref r0_10]) lk_10_272 (by decide +kernel) rfl (dk_FB_hoursTooMany d) (Nat.le_of_ble_eq_true rfl) (Or.inl ⟨10, o_r0_10, rfl⟩) h ?_
    rintro _ μ3 ⟨v3, rfl, h⟩ hn3
    show G Γ m_FB_goApart (d + 1) (0, 0) Q 166 [.ref r0, .ref r1, .int x2, .int (xI μ r1_1 x2.toNatClampNeg)] [.int v3, .ref r0_10] μ3
    refine g_invV (M' := m_Pi_growOlder) (b1 := 0) (b2 := 0) (As := [.int v3]) (a := r0_10) (st := []) lk_10_275 (by decide +kernel) rfl (dk_Pi_growOlder d) (Nat.le_of_ble_eq_true rfl) (Or.inl ⟨6, ((o_r0_10_6).mono hn3), rfl⟩) h ?_
    rintro _ μ4 ⟨rfl, h⟩ hn4
    show G Γ m_FB_goApart (d + 1) (0, 0) Q 169 [.ref r0, .ref r1, .int x2, .int (xI μ r1_1 x2.toNatClampNeg)] [] μ4
    exact g_retv (by decide +kernel) rfl h
  · replace h := h.2
    match k, hk, hc with
    | 0, _, hc =>
      replace h := h.1 hc
      refine ⟨44, 31, rfl, by decide, ?_⟩
      show G Γ m_FB_goApart (d + 1) (0, 0) Q 44 [.ref r0, .ref r1, .int x2, .int (xI μ r1_1 x2.toNatClampNeg)] [] μ
      obtain ⟨ib5, h⟩ := h
      obtain ⟨ib6, h⟩ := h
      refine run_ok (pc' := 63) [(.aload_n 0, 0, 0, 0), (.getfield 52, 10, 10, 2), (.iload_n 3, 0, 0, 0), (.aload_n 1, 0, 0, 0), (.getfield 327, 7, 2, 2), (.iload_n 2, 0, 0, 0), (.iaload, 0, 0, 0), (.iconst 0, 0, 0, 0), (.aload_n 1, 0, 0, 0), (.getfield 330, 7, 3, 2), (.iload_n 2, 0, 0, 0), (.iaload, 0, 0, 0), (.iconst 1, 0, 0, 0)] _ _ _ _ (by decide +kernel) ?_
      show _ ∧ (∃ _, _ ∧ (_ ∧ (∃ _, _ ∧ (_ ∧ (_ ∧ (∃ _, _ ∧ (_ ∧ (_))))))))
      refine ⟨o_r0_10, r0_10, e_r0_10, o_r1_7, r1_2, e_r1_2, ib5, o_r1_7, r1_3, e_r1_3, ib6, ?_⟩
      show G Γ m_FB_goApart (d + 1) (0, 0) Q 63 [.ref r0, .ref r1, .int x2, .int (xI μ r1_1 x2.toNatClampNeg)] [.int (w 1), .int (xI μ r1_3 x2.toNatClampNeg), .int (w 0), .int (xI μ r1_2 x2.toNatClampNeg), .int (xI μ r1_1 x2.toNatClampNeg), .ref r0_10] μ
      refine g_icmp_ne (pc' := 76) (off := 13) (by decide) (by decide +kernel) (fun hc => ?_) (fun hc => ?_)
      · replace h := h.2 hc
        show G Γ m_FB_goApart (d + 1) (0, 0) Q 76 [.ref r0, .ref r1, .int x2, .int (xI μ r1_1 x2.toNatClampNeg)] [.int (w 0), .int (xI μ r1_2 x2.toNatClampNeg), .int (xI μ r1_1 x2.toNatClampNeg), .ref r0_10] μ
        refine run_ok (pc' := 77) [(.iconst (-1), 0, 0, 0)] _ _ _ _ (by decide +kernel) ?_
        show G Γ m_FB_goApart (d + 1) (0, 0) Q 77 [.ref r0, .ref r1, .int x2, .int (xI μ r1_1 x2.toNatClampNeg)] [.int (w (-1)), .int (w 0), .int (xI μ r1_2 x2.toNatClampNeg), .int (xI μ r1_1 x2.toNatClampNeg), .ref r0_10] μ
        refine g_invV (M' := m_Pi_push) (b1 := 0) (b2 := 0) (As := [.int (xI μ r1_1 x2.toNatClampNeg), .int (xI μ r1_2 x2.toNatClampNeg), .int (w 0), .int (w (-1))]) (a := r0_10) (st := []) lk_10_251 (by decide +kernel) rfl (dk_Pi_push d) (Nat.le_of_ble_eq_true rfl) (Or.inl ⟨6, o_r0_10_6, rfl⟩) h ?_
        rintro _ μ7 ⟨rfl, h⟩ hn7
        show G Γ m_FB_goApart (d + 1) (0, 0) Q 80 [.ref r0, .ref r1, .int x2, .int (xI μ r1_1 x2.toNatClampNeg)] [] μ7
        refine run_ok (pc' := 169) [(.goto 89, 0, 0, 0)] _ _ _ _ (by decide +kernel) ?_
        show G Γ m_FB_goApart (d + 1) (0, 0) Q 169 [.ref r0, .ref r1, .int x2, .int (xI μ r1_1 x2.toNatClampNeg)] [] μ7
        exact g_retv (by decide +kernel) rfl h
      · replace h := h.1 hc
        show G Γ m_FB_goApart (d + 1) (0, 0) Q 66 [.ref r0, .ref r1, .int x2, .int (xI μ r1_1 x2.toNatClampNeg)] [.int (w 0), .int (xI μ r1_2 x2.toNatClampNeg), .int (xI μ r1_1 x2.toNatClampNeg), .ref r0_10] μ
        refine run_ok (pc' := 77) [(.aload_n 0, 0, 0, 0), (.getfield 52, 10, 10, 2), (.getfield 209, 6, 5, 0), (.goto 4, 0, 0, 0)] _ _ _ _ (by decide +kernel) ?_
        show _ ∧ (∃ _, _ ∧ (_ ∧ (_)))
        refine ⟨o_r0_10, r0_10, e_r0_10, o_r0_10_6, ?_⟩
        show G Γ m_FB_goApart (d + 1) (0, 0) Q 77 [.ref r0, .ref r1, .int x2, .int (xI μ r1_1 x2.toNatClampNeg)] [.int (xI μ r0_10 5), .int (w 0), .int (xI μ r1_2 x2.toNatClampNeg), .int (xI μ r1_1 x2.toNatClampNeg), .ref r0_10] μ
        refine g_invV (M' := m_Pi_push) (b1 := 0) (b2 := 0) (As := [.int (xI μ r1_1 x2.toNatClampNeg), .int (xI μ r1_2 x2.toNatClampNeg), .int (w 0), .int (xI μ r0_10 5)]) (a := r0_10) (st := []) lk_10_251 (by decide +kernel) rfl (dk_Pi_push d) (Nat.le_of_ble_eq_true rfl) (Or.inl ⟨6, o_r0_10_6, rfl⟩) h ?_
        rintro _ μ8 ⟨rfl, h⟩ hn8
        show G Γ m_FB_goApart (d + 1) (0, 0) Q 80 [.ref r0, .ref r1, .int x2, .int (xI μ r1_1 x2.toNatClampNeg)] [] μ8
        refine run_ok (pc' := 169) [(.goto 89, 0, 0, 0)] _ _ _ _ (by decide +kernel) ?_
        show G Γ m_FB_goApart (d + 1) (0, 0) Q 169 [.ref r0, .ref r1, .int x2, .int (xI μ r1_1 x2.toNatClampNeg)] [] μ8
        exact g_retv (by decide +kernel) rfl h
    | 1, _, hc =>
      replace h := h.2.1 hc
      refine ⟨83, 70, rfl, by decide, ?_⟩
      show G Γ m_FB_goApart (d + 1) (0, 0) Q 83 [.ref r0, .ref r1, .int x2, .int (xI μ r1_1 x2.toNatClampNeg)] [] μ
      refine run_ok (pc' := 92) [(.aload_n 0, 0, 0, 0), (.getfield 52, 10, 10, 2), (.aload_n 0, 0, 0, 0), (.getfield 52, 10, 10, 2), (.iload_n 3, 0, 0, 0)] _ _ _ _ (by decide +kernel) ?_
      show _ ∧ (∃ _, _ ∧ (_ ∧ (∃ _, _ ∧ (_))))
      refine ⟨o_r0_10, r0_10, e_r0_10, o_r0_10, r0_10, e_r0_10, ?_⟩
      show G Γ m_FB_goApart (d + 1) (0, 0) Q 92 [.ref r0, .ref r1, .int x2, .int (xI μ r1_1 x2.toNatClampNeg)] [.int (xI μ r1_1 x2.toNatClampNeg), .ref r0_10, .ref r0_10] μ
      refine g_invV (M' := m_Pi_indexOf) (b1 := 0) (b2 := 0) (As := [.int (xI μ r1_1 x2.toNatClampNeg)]) (a := r0_10) (st := [.ref r0_10]) lk_10_182 (by decide +kernel) rfl (dk_Pi_indexOf d) (Nat.le_of_ble_eq_true rfl) (Or.inl ⟨6, o_r0_10_6, rfl⟩) h ?_
      rintro _ μ9 ⟨v9, rfl, h⟩ hn9
      show G Γ m_FB_goApart (d + 1) (0, 0) Q 95 [.ref r0, .ref r1, .int x2, .int (xI μ r1_1 x2.toNatClampNeg)] [.int v9, .ref r0_10] μ9
      refine g_invV (M' := m_Pi_remove) (b1 := 0) (b2 := 0) (As := [.int v9]) (a := r0_10) (st := []) lk_10_237 (by decide +kernel) rfl (dk_Pi_remove d) (Nat.le_of_ble_eq_true rfl) (Or.inl ⟨6, ((o_r0_10_6).mono hn9), rfl⟩) h ?_
      rintro _ μ10 ⟨rfl, h⟩ hn10
      show G Γ m_FB_goApart (d + 1) (0, 0) Q 98 [.ref r0, .ref r1, .int x2, .int (xI μ r1_1 x2.toNatClampNeg)] [] μ10
      refine run_ok (pc' := 169) [(.goto 71, 0, 0, 0)] _ _ _ _ (by decide +kernel) ?_
      show G Γ m_FB_goApart (d + 1) (0, 0) Q 169 [.ref r0, .ref r1, .int x2, .int (xI μ r1_1 x2.toNatClampNeg)] [] μ10
      exact g_retv (by decide +kernel) rfl h
    | 2, _, hc =>
      replace h := h.2.2.1 hc
      refine ⟨101, 88, rfl, by decide, ?_⟩
      show G Γ m_FB_goApart (d + 1) (0, 0) Q 101 [.ref r0, .ref r1, .int x2, .int (xI μ r1_1 x2.toNatClampNeg)] [] μ
      refine run_ok (pc' := 110) [(.aload_n 0, 0, 0, 0), (.getfield 52, 10, 10, 2), (.aload_n 0, 0, 0, 0), (.getfield 52, 10, 10, 2), (.iload_n 3, 0, 0, 0)] _ _ _ _ (by decide +kernel) ?_
      show _ ∧ (∃ _, _ ∧ (_ ∧ (∃ _, _ ∧ (_))))
      refine ⟨o_r0_10, r0_10, e_r0_10, o_r0_10, r0_10, e_r0_10, ?_⟩
      show G Γ m_FB_goApart (d + 1) (0, 0) Q 110 [.ref r0, .ref r1, .int x2, .int (xI μ r1_1 x2.toNatClampNeg)] [.int (xI μ r1_1 x2.toNatClampNeg), .ref r0_10, .ref r0_10] μ
      refine g_invV (M' := m_Pi_indexOf) (b1 := 0) (b2 := 0) (As := [.int (xI μ r1_1 x2.toNatClampNeg)]) (a := r0_10) (st := [.ref r0_10]) lk_10_182 (by decide +kernel) rfl (dk_Pi_indexOf d) (Nat.le_of_ble_eq_true rfl) (Or.inl ⟨6, o_r0_10_6, rfl⟩) h ?_
      rintro _ μ11 ⟨v11, rfl, h⟩ hn11
      show G Γ m_FB_goApart (d + 1) (0, 0) Q 113 [.ref r0, .ref r1, .int x2, .int (xI μ r1_1 x2.toNatClampNeg)] [.int v11, .ref r0_10] μ11
      refine g_invV (M' := m_Pi_putLabel) (b1 := 0) (b2 := 0) (As := [.int v11]) (a := r0_10) (st := []) lk_10_257 (by decide +kernel) rfl (dk_Pi_putLabel d) (Nat.le_of_ble_eq_true rfl) (Or.inl ⟨6, ((o_r0_10_6).mono hn11), rfl⟩) h ?_
      rintro _ μ12 ⟨rfl, h⟩ hn12
      show G Γ m_FB_goApart (d + 1) (0, 0) Q 116 [.ref r0, .ref r1, .int x2, .int (xI μ r1_1 x2.toNatClampNeg)] [] μ12
      refine run_ok (pc' := 169) [(.goto 53, 0, 0, 0)] _ _ _ _ (by decide +kernel) ?_
      show G Γ m_FB_goApart (d + 1) (0, 0) Q 169 [.ref r0, .ref r1, .int x2, .int (xI μ r1_1 x2.toNatClampNeg)] [] μ12
      exact g_retv (by decide +kernel) rfl h
    | 3, _, hc =>
      replace h := h.2.2.2 hc
      refine ⟨119, 106, rfl, by decide, ?_⟩
      show G Γ m_FB_goApart (d + 1) (0, 0) Q 119 [.ref r0, .ref r1, .int x2, .int (xI μ r1_1 x2.toNatClampNeg)] [] μ
      refine run_ok (pc' := 122) [(.iconst 0, 0, 0, 0), (.istore 4, 0, 0, 0)] _ _ _ _ (by decide +kernel) ?_
      show G Γ m_FB_goApart (d + 1) (0, 0) Q 122 [.ref r0, .ref r1, .int x2, .int (xI μ r1_1 x2.toNatClampNeg), .int (w 0)] [] μ
      exact g_wk (ls' := [.ref r0, jk, jk, .int (xI μ r1_1 x2.toNatClampNeg), .int (w 0)]) ⟨Or.inr rfl, Or.inl rfl, Or.inl rfl, Or.inr rfl, Or.inr rfl, trivial⟩ h
    | k + 4, hk, _ => exact absurd hk (by omega)
set_option maxRecDepth 100000 in
theorem B_FB_goApart_122 {Γ : XG} {d : Nat} {Q : Option Value → XM → Prop} {r0 r0_10 r0_1 r0_1_0 : Nat} {x3 x4 : Int32} {μ : XM} (o_r0_10 : ob μ r0 10) (e_r0_10 : xR μ r0 10 = some r0_10) (e_r0_1 : xR μ r0 1 = some r0_1) (o_r0_1_1 : ob μ r0_1 1) (e_r0_1_0 : xR μ r0_1 0 = some r0_1_0) (o_r0_10_6 : ob μ r0_10 6) (h : ((x4 < x3 → inb μ 0 r0_1_0 (w 2) ∧ Call Γ m_Pi_passMonth d [.ref r0_10, .int (xI μ r0_1_0 (w 2).toNatClampNeg)] μ (KV (fun μ2 => G Γ m_FB_goApart (d + 1) (0, 0) Q 122 [.ref r0, jk, jk, .int x3, .int (x4 + w 1)] [] μ2))) ∧ (¬ x4 < x3 → Q none μ))) : G Γ m_FB_goApart (d + 1) (0, 0) Q 122 [.ref r0, jk, jk, .int x3, .int x4] [] μ := by
  refine run_ok (pc' := 125) [(.iload 4, 0, 0, 0), (.iload_n 3, 0, 0, 0)] _ _ _ _ (by decide +kernel) ?_
  show G Γ m_FB_goApart (d + 1) (0, 0) Q 125 [.ref r0, jk, jk, .int x3, .int x4] [.int x3, .int x4] μ
  refine g_icmp_ge (pc' := 150) (off := 25) (by decide) (by decide +kernel) (fun hc => ?_) (fun hc => ?_)
  · replace h := h.2 hc
    show G Γ m_FB_goApart (d + 1) (0, 0) Q 150 [.ref r0, jk, jk, .int x3, .int x4] [] μ
    refine run_ok (pc' := 169) [(.goto 19, 0, 0, 0)] _ _ _ _ (by decide +kernel) ?_
    show G Γ m_FB_goApart (d + 1) (0, 0) Q 169 [.ref r0, jk, jk, .int x3, .int x4] [] μ
    exact g_retv (by decide +kernel) rfl h
  · replace h := h.1 hc
    show G Γ m_FB_goApart (d + 1) (0, 0) Q 128 [.ref r0, jk, jk, .int x3, .int x4] [] μ
    obtain ⟨ib1, h⟩ := h
    refine run_ok (pc' := 141) [(.aload_n 0, 0, 0, 0), (.getfield 52, 10, 10, 2), (.aload_n 0, 0, 0, 0), (.getfield 19, 10, 1, 2), (.getfield 166, 1, 0, 2), (.iconst 2, 0, 0, 0), (.iaload, 0, 0, 0)] _ _ _ _ (by decide +kernel) ?_
    show _ ∧ (∃ _, _ ∧ (_ ∧ (∃ _, _ ∧ (_ ∧ (∃ _, _ ∧ (_ ∧ (_)))))))
    refine ⟨o_r0_10, r0_10, e_r0_10, o_r0_10, r0_1, e_r0_1, o_r0_1_1, r0_1_0, e_r0_1_0, ib1, ?_⟩
    show G Γ m_FB_goApart (d + 1) (0, 0) Q 141 [.ref r0, jk, jk, .int x3, .int x4] [.int (xI μ r0_1_0 (w 2).toNatClampNeg), .ref r0_10] μ
    refine g_invV (M' := m_Pi_passMonth) (b1 := 0) (b2 := 0) (As := [.int (xI μ r0_1_0 (w 2).toNatClampNeg)]) (a := r0_10) (st := []) lk_10_260 (by decide +kernel) rfl (dk_Pi_passMonth d) (Nat.le_of_ble_eq_true rfl) (Or.inl ⟨6, o_r0_10_6, rfl⟩) h ?_
    rintro _ μ2 ⟨rfl, h⟩ hn2
    show G Γ m_FB_goApart (d + 1) (0, 0) Q 144 [.ref r0, jk, jk, .int x3, .int x4] [] μ2
    refine run_ok (pc' := 122) [(.iinc 4 1, 0, 0, 0), (.goto (-25), 0, 0, 0)] _ _ _ _ (by decide +kernel) ?_
    show G Γ m_FB_goApart (d + 1) (0, 0) Q 122 [.ref r0, jk, jk, .int x3, .int (x4 + w 1)] [] μ2
    exact h
/-! FrostBox perform(I)I -/
set_option maxRecDepth 100000 in
theorem lk_10_343 : LkV 10 343 m_FB_off 1 := ⟨lc_FB_off, lwG_in (List.mem_of_getElem? (i := 901) rfl) rfl, lwG_in (List.mem_of_getElem? (i := 794) rfl) rfl, lwG_in (List.mem_of_getElem? (i := 795) rfl) rfl⟩
set_option maxRecDepth 100000 in
theorem lk_10_333 : LkV 10 333 m_FB_put 3 := ⟨lc_FB_put, lwG_in (List.mem_of_getElem? (i := 898) rfl) rfl, lwG_in (List.mem_of_getElem? (i := 687) rfl) rfl, lwG_in (List.mem_of_getElem? (i := 688) rfl) rfl⟩
set_option maxRecDepth 100000 in
theorem lk_10_337 : LkV 10 337 m_FB_take 1 := ⟨lc_FB_take, lwG_in (List.mem_of_getElem? (i := 899) rfl) rfl, lwG_in (List.mem_of_getElem? (i := 709) rfl) rfl, lwG_in (List.mem_of_getElem? (i := 710) rfl) rfl⟩
set_option maxRecDepth 100000 in
theorem lk_10_340 : LkV 10 340 m_FB_label 1 := ⟨lc_FB_label, lwG_in (List.mem_of_getElem? (i := 900) rfl) rfl, lwG_in (List.mem_of_getElem? (i := 760) rfl) rfl, lwG_in (List.mem_of_getElem? (i := 761) rfl) rfl⟩
set_option maxRecDepth 100000 in
theorem B_FB_perform_0 {Γ : XG} {d : Nat} {Q : Option Value → XM → Prop} {r0 : Nat} {x1 : Int32} {μ : XM} (o_r0_10 : ob μ r0 10) (h : Call Γ m_FB_isPlan d [.ref r0, .int x1] μ (KI (fun v1 μ1 => ((v1 = w 0 → Q (some (.int (w (-1)))) μ1) ∧ (¬ v1 = w 0 → Call Γ m_FB_hasHouse d [.ref r0] μ1 (KI (fun v2 μ2 => ((v2 = w 0 → Q (some (.int (w (-1)))) μ2) ∧ (¬ v2 = w 0 → ∃ a3, xR μ2 r0 6 = some a3 ∧ inb μ2 6 a3 x1 ∧ ∃ a4, xR μ2 a3 x1.toNatClampNeg = some a4 ∧ G Γ m_FB_perform (d + 1) (0, 0) Q 26 [.ref r0, jk, .ref a4, .int (w 0)] [] μ2))))))))) : G Γ m_FB_perform (d + 1) (0, 0) Q 0 [.ref r0, .int x1] [] μ := by
  refine run_ok (pc' := 2) [(.aload_n 0, 0, 0, 0), (.iload_n 1, 0, 0, 0)] _ _ _ _ (by decide +kernel) ?_
  show G Γ m_FB_perform (d + 1) (0, 0) Q 2 [.ref r0, .int x1] [.int x1, .ref r0] μ
  refine g_invV (M' := m_FB_isPlan) (b1 := 0) (b2 := 0) (As := [.int x1]) (a := r0) (st := []) lk_10_307 (by decide +kernel) rfl (dk_FB_isPlan d) (Nat.le_of_ble_eq_true rfl) (Or.inl ⟨10, o_r0_10, rfl⟩) h ?_
  rintro _ μ1 ⟨v1, rfl, h⟩ hn1
  show G Γ m_FB_perform (d + 1) (0, 0) Q 5 [.ref r0, .int x1] [.int v1] μ1
  refine g_ifz_eq (pc' := 15) (off := 10) (by decide) (by decide +kernel) (fun hc => ?_) (fun hc => ?_)
  · replace h := h.1 hc
    show G Γ m_FB_perform (d + 1) (0, 0) Q 15 [.ref r0, .int x1] [] μ1
    refine run_ok (pc' := 16) [(.iconst (-1), 0, 0, 0)] _ _ _ _ (by decide +kernel) ?_
    show G Γ m_FB_perform (d + 1) (0, 0) Q 16 [.ref r0, .int x1] [.int (w (-1))] μ1
    exact g_reti (by decide +kernel) rfl h
  · replace h := h.2 hc
    show G Γ m_FB_perform (d + 1) (0, 0) Q 8 [.ref r0, .int x1] [] μ1
    refine run_ok (pc' := 9) [(.aload_n 0, 0, 0, 0)] _ _ _ _ (by decide +kernel) ?_
    show G Γ m_FB_perform (d + 1) (0, 0) Q 9 [.ref r0, .int x1] [.ref r0] μ1
    refine g_invV (M' := m_FB_hasHouse) (b1 := 0) (b2 := 0) (As := []) (a := r0) (st := []) lk_10_162 (by decide +kernel) rfl (dk_FB_hasHouse d) (Nat.le_of_ble_eq_true rfl) (Or.inl ⟨10, ((o_r0_10).mono hn1), rfl⟩) h ?_
    rintro _ μ2 ⟨v2, rfl, h⟩ hn2
    show G Γ m_FB_perform (d + 1) (0, 0) Q 12 [.ref r0, .int x1] [.int v2] μ2
    refine g_ifz_ne (pc' := 17) (off := 5) (by decide) (by decide +kernel) (fun hc => ?_) (fun hc => ?_)
    · replace h := h.2 hc
      show G Γ m_FB_perform (d + 1) (0, 0) Q 17 [.ref r0, .int x1] [] μ2
      obtain ⟨a3, ea3, h⟩ := h
      obtain ⟨ib4, h⟩ := h
      obtain ⟨a4, ea4, h⟩ := h
      refine run_ok (pc' := 26) [(.aload_n 0, 0, 0, 0), (.getfield 38, 10, 6, 2), (.iload_n 1, 0, 0, 0), (.aaload, 6, 0, 0), (.astore_n 2, 0, 0, 0), (.iconst 0, 0, 0, 0), (.istore_n 3, 0, 0, 0)] _ _ _ _ (by decide +kernel) ?_
      show _ ∧ (∃ _, _ ∧ (_ ∧ (∃ _, _ ∧ (_))))
      refine ⟨(((o_r0_10).mono hn1).mono hn2), a3, ea3, ib4, a4, ea4, ?_⟩
      show G Γ m_FB_perform (d + 1) (0, 0) Q 26 [.ref r0, .int x1, .ref a4, .int (w 0)] [] μ2
      exact g_wk (ls' := [.ref r0, jk, .ref a4, .int (w 0)]) ⟨Or.inr rfl, Or.inl rfl, Or.inr rfl, Or.inr rfl, trivial⟩ h
    · replace h := h.1 hc
      show G Γ m_FB_perform (d + 1) (0, 0) Q 15 [.ref r0, .int x1] [] μ2
      refine run_ok (pc' := 16) [(.iconst (-1), 0, 0, 0)] _ _ _ _ (by decide +kernel) ?_
      show G Γ m_FB_perform (d + 1) (0, 0) Q 16 [.ref r0, .int x1] [.int (w (-1))] μ2
      exact g_reti (by decide +kernel) rfl h
set_option maxRecDepth 100000 in
theorem B_FB_perform_26 {Γ : XG} {d : Nat} {Q : Option Value → XM → Prop} {r0 r2 r0_9 : Nat} {x3 : Int32} {μ : XM} (o_r2_7 : ob μ r2 7) (o_r0_10 : ob μ r0 10) (e_r0_9 : xR μ r0 9 = some r0_9) (h : ((x3 < xI μ r2 4 → Call Γ m_FB_canBe d [.ref r0, .ref r0_9, .ref r2, .int x3] μ (KI (fun v1 μ1 => ((v1 = w 0 → Q (some (.int x3)) μ1) ∧ (¬ v1 = w 0 → ∃ a2, xR μ1 r2 1 = some a2 ∧ inb μ1 0 a2 x3 ∧ ∃ a4, xR μ1 r2 0 = some a4 ∧ inb μ1 0 a4 x3 ∧ (((xI μ1 a4 x3.toNatClampNeg < w 0 ∨ w 3 < xI μ1 a4 x3.toNatClampNeg) → Call Γ m_FB_off d [.ref r0, .int (xI μ1 a2 x3.toNatClampNeg)] μ1 (KI (fun v6 μ6 => G Γ m_FB_perform (d + 1) (0, 0) Q 26 [.ref r0, jk, .ref r2, .int (x3 + w 1)] [] μ6))) ∧ (xI μ1 a4 x3.toNatClampNeg = w 0 → ∃ a7, xR μ1 r2 2 = some a7 ∧ inb μ1 0 a7 x3 ∧ ∃ a9, xR μ1 r2 3 = some a9 ∧ inb μ1 0 a9 x3 ∧ ((xI μ1 a9 x3.toNatClampNeg = w 1 → Call Γ m_FB_put d [.ref r0, .int (xI μ1 a2 x3.toNatClampNeg), .int (xI μ1 a7 x3.toNatClampNeg), .int (w 1)] μ1 (KI (fun v12 μ12 => G Γ m_FB_perform (d + 1) (0, 0) Q 26 [.ref r0, jk, .ref r2, .int (x3 + w 1)] [] μ12))) ∧ (¬ xI μ1 a9 x3.toNatClampNeg = w 1 → Call Γ m_FB_put d [.ref r0, .int (xI μ1 a2 x3.toNatClampNeg), .int (xI μ1 a7 x3.toNatClampNeg), .int (w 0)] μ1 (KI (fun v11 μ11 => G Γ m_FB_perform (d + 1) (0, 0) Q 26 [.ref r0, jk, .ref r2, .int (x3 + w 1)] [] μ11))))) ∧ (xI μ1 a4 x3.toNatClampNeg = w 1 → Call Γ m_FB_take d [.ref r0, .int (xI μ1 a2 x3.toNatClampNeg)] μ1 (KI (fun v13 μ13 => G Γ m_FB_perform (d + 1) (0, 0) Q 26 [.ref r0, jk, .ref r2, .int (x3 + w 1)] [] μ13))) ∧ (xI μ1 a4 x3.toNatClampNeg = w 2 → Call Γ m_FB_label d [.ref r0, .int (xI μ1 a2 x3.toNatClampNeg)] μ1 (KI (fun v14 μ14 => G Γ m_FB_perform (d + 1) (0, 0) Q 26 [.ref r0, jk, .ref r2, .int (x3 + w 1)] [] μ14))) ∧ (xI μ1 a4 x3.toNatClampNeg = w 3 → Call Γ m_FB_passMonthsAsActs d [.ref r0, .int (xI μ1 a2 x3.toNatClampNeg)] μ1 (KV (fun μ15 => G Γ m_FB_perform (d + 1) (0, 0) Q 26 [.ref r0, jk, .ref r2, .int (x3 + w 1)] [] μ15))))))))) ∧ (¬ x3 < xI μ r2 4 → Q (some (.int x3)) μ))) : G Γ m_FB_perform (d + 1) (0, 0) Q 26 [.ref r0, jk, .ref r2, .int x3] [] μ := by
  refine run_ok (pc' := 31) [(.iload_n 3, 0, 0, 0), (.aload_n 2, 0, 0, 0), (.getfield 310, 7, 4, 0)] _ _ _ _ (by decide +kernel) ?_
  show _ ∧ (_)
  refine ⟨o_r2_7, ?_⟩
  show G Γ m_FB_perform (d + 1) (0, 0) Q 31 [.ref r0, jk, .ref r2, .int x3] [.int (xI μ r2 4), .int x3] μ
  refine g_icmp_ge (pc' := 165) (off := 134) (by decide) (by decide +kernel) (fun hc => ?_) (fun hc => ?_)
  · replace h := h.2 hc
    show G Γ m_FB_perform (d + 1) (0, 0) Q 165 [.ref r0, jk, .ref r2, .int x3] [] μ
    refine run_ok (pc' := 166) [(.iload_n 3, 0, 0, 0)] _ _ _ _ (by decide +kernel) ?_
    show G Γ m_FB_perform (d + 1) (0, 0) Q 166 [.ref r0, jk, .ref r2, .int x3] [.int x3] μ
    exact g_reti (by decide +kernel) rfl h
  · replace h := h.1 hc
    show G Γ m_FB_perform (d + 1) (0, 0) Q 34 [.ref r0, jk, .ref r2, .int x3] [] μ
    refine run_ok (pc' := 41) [(.aload_n 0, 0, 0, 0), (.aload_n 0, 0, 0, 0), (.getfield 48, 10, 9, 2), (.aload_n 2, 0, 0, 0), (.iload_n 3, 0, 0, 0)] _ _ _ _ (by decide +kernel) ?_
    show _ ∧ (∃ _, _ ∧ (_))
    refine ⟨o_r0_10, r0_9, e_r0_9, ?_⟩
    show G Γ m_FB_perform (d + 1) (0, 0) Q 41 [.ref r0, jk, .ref r2, .int x3] [.int x3, .ref r2, .ref r0_9, .ref r0] μ
    refine g_invV (M' := m_FB_canBe) (b1 := 0) (b2 := 0) (As := [.ref r0_9, .ref r2, .int x3]) (a := r0) (st := []) lk_10_313 (by decide +kernel) rfl (dk_FB_canBe d) (Nat.le_of_ble_eq_true rfl) (Or.inl ⟨10, o_r0_10, rfl⟩) h ?_
    rintro _ μ1 ⟨v1, rfl, h⟩ hn1
    show G Γ m_FB_perform (d + 1) (0, 0) Q 44 [.ref r0, jk, .ref r2, .int x3] [.int v1] μ1
    refine g_ifz_eq (pc' := 165) (off := 121) (by decide) (by decide +kernel) (fun hc => ?_) (fun hc => ?_)
    · replace h := h.1 hc
      show G Γ m_FB_perform (d + 1) (0, 0) Q 165 [.ref r0, jk, .ref r2, .int x3] [] μ1
      refine run_ok (pc' := 166) [(.iload_n 3, 0, 0, 0)] _ _ _ _ (by decide +kernel) ?_
      show G Γ m_FB_perform (d + 1) (0, 0) Q 166 [.ref r0, jk, .ref r2, .int x3] [.int x3] μ1
      exact g_reti (by decide +kernel) rfl h
    · replace h := h.2 hc
      show G Γ m_FB_perform (d + 1) (0, 0) Q 47 [.ref r0, jk, .ref r2, .int x3] [] μ1
      obtain ⟨a2, ea2, h⟩ := h
      obtain ⟨ib3, h⟩ := h
      obtain ⟨a4, ea4, h⟩ := h
      obtain ⟨ib5, h⟩ := h
      refine run_ok (pc' := 61) [(.aload_n 2, 0, 0, 0), (.getfield 320, 7, 1, 2), (.iload_n 3, 0, 0, 0), (.iaload, 0, 0, 0), (.istore 4, 0, 0, 0), (.aload_n 2, 0, 0, 0), (.getfield 317, 7, 0, 2), (.iload_n 3, 0, 0, 0), (.iaload, 0, 0, 0)] _ _ _ _ (by decide +kernel) ?_
      show _ ∧ (∃ _, _ ∧ (_ ∧ (_ ∧ (∃ _, _ ∧ (_ ∧ (_))))))
      refine ⟨((o_r2_7).mono hn1), a2, ea2, ib3, ((o_r2_7).mono hn1), a4, ea4, ib5, ?_⟩
      show G Γ m_FB_perform (d + 1) (0, 0) Q 61 [.ref r0, jk, .ref r2, .int x3, .int (xI μ1 a2 x3.toNatClampNeg)] [.int (xI μ1 a4 x3.toNatClampNeg)] μ1
      refine g_sw (df := 91) (lo := 0) (n := 4) (offs := #[31, 62, 72, 82]) (len := 31) (by decide +kernel) (by decide) (pd := 152) (by decide) (fun hc => ?_) (fun k hk hc => ?_)
      · replace h := h.1 hc
        show G Γ m_FB_perform (d + 1) (0, 0) Q 152 [.ref r0, jk, .ref r2, .int x3, .int (xI μ1 a2 x3.toNatClampNeg)] [] μ1
        refine run_ok (pc' := 155) [(.aload_n 0, 0, 0, 0), (.iload 4, 0, 0, 0)] _ _ _ _ (by decide +kernel) ?_
        show G Γ m_FB_perform (d + 1) (0, 0) Q 155 [.ref r0, jk, .ref r2, .int x3, .int (xI μ1 a2 x3.toNatClampNeg)] [.int (xI μ1 a2 x3.toNatClampNeg), .ref r0] μ1
        refine g_invV (M' := m_FB_off) (b1 := 0) (b2 := 0) (As := [.int (xI μ1 a2 x3.toNatClampNeg)]) (a := r0) (st := []) lk_10_343 (by decide +kernel) rfl (dk_FB_off d) (Nat.le_of_ble_eq_true rfl) (Or.inl ⟨10, ((o_r0_10).mono hn1), rfl⟩) h ?_
        rintro _ μ6 ⟨v6, rfl, h⟩ hn6
        show G Γ m_FB_perform (d + 1) (0, 0) Q 158 [.ref r0, jk, .ref r2, .int x3, .int (xI μ1 a2 x3.toNatClampNeg)] [.int v6] μ6
        refine run_ok (pc' := 26) [(.pop, 0, 0, 0), (.iinc 3 1, 0, 0, 0), (.goto (-136), 0, 0, 0)] _ _ _ _ (by decide +kernel) ?_
        show G Γ m_FB_perform (d + 1) (0, 0) Q 26 [.ref r0, jk, .ref r2, .int (x3 + w 1), .int (xI μ1 a2 x3.toNatClampNeg)] [] μ6
        exact g_wk (ls' := [.ref r0, jk, .ref r2, .int (x3 + w 1)]) ⟨Or.inr rfl, Or.inl rfl, Or.inr rfl, Or.inr rfl, trivial⟩ h
      · replace h := h.2
        match k, hk, hc with
        | 0, _, hc =>
          replace h := h.1 hc
          refine ⟨92, 31, rfl, by decide, ?_⟩
          show G Γ m_FB_perform (d + 1) (0, 0) Q 92 [.ref r0, jk, .ref r2, .int x3, .int (xI μ1 a2 x3.toNatClampNeg)] [] μ1
          obtain ⟨a7, ea7, h⟩ := h
          obtain ⟨ib8, h⟩ := h
          obtain ⟨a9, ea9, h⟩ := h
          obtain ⟨ib10, h⟩ := h
          refine run_ok (pc' := 108) [(.aload_n 0, 0, 0, 0), (.iload 4, 0, 0, 0), (.aload_n 2, 0, 0, 0), (.getfield 327, 7, 2, 2), (.iload_n 3, 0, 0, 0), (.iaload, 0, 0, 0), (.aload_n 2, 0, 0, 0), (.getfield 330, 7, 3, 2), (.iload_n 3, 0, 0, 0), (.iaload, 0, 0, 0), (.iconst 1, 0, 0, 0)] _ _ _ _ (by decide +kernel) ?_
          show _ ∧ (∃ _, _ ∧ (_ ∧ (_ ∧ (∃ _, _ ∧ (_ ∧ (_))))))
          refine ⟨((o_r2_7).mono hn1), a7, ea7, ib8, ((o_r2_7).mono hn1), a9, ea9, ib10, ?_⟩
          show G Γ m_FB_perform (d + 1) (0, 0) Q 108 [.ref r0, jk, .ref r2, .int x3, .int (xI μ1 a2 x3.toNatClampNeg)] [.int (w 1), .int (xI μ1 a9 x3.toNatClampNeg), .int (xI μ1 a7 x3.toNatClampNeg), .int (xI μ1 a2 x3.toNatClampNeg), .ref r0] μ1
          refine g_icmp_ne (pc' := 115) (off := 7) (by decide) (by decide +kernel) (fun hc => ?_) (fun hc => ?_)
          · replace h := h.2 hc
            show G Γ m_FB_perform (d + 1) (0, 0) Q 115 [.ref r0, jk, .ref r2, .int x3, .int (xI μ1 a2 x3.toNatClampNeg)] [.int (xI μ1 a7 x3.toNatClampNeg), .int (xI μ1 a2 x3.toNatClampNeg), .ref r0] μ1
            refine run_ok (pc' := 116) [(.iconst 0, 0, 0, 0)] _ _ _ _ (by decide +kernel) ?_
            show G Γ m_FB_perform (d + 1) (0, 0) Q 116 [.ref r0, jk, .ref r2, .int x3, .int (xI μ1 a2 x3.toNatClampNeg)] [.int (w 0), .int (xI μ1 a7 x3.toNatClampNeg), .int (xI μ1 a2 x3.toNatClampNeg), .ref r0] μ1
            refine g_invV (M' := m_FB_put) (b1 := 0) (b2 := 0) (As := [.int (xI μ1 a2 x3.toNatClampNeg), .int (xI μ1 a7 x3.toNatClampNeg), .int (w 0)]) (a := r0) (st := []) lk_10_333 (by decide +kernel) rfl (dk_FB_put d) (Nat.le_of_ble_eq_true rfl) (Or.inl ⟨10, ((o_r0_10).mono hn1), rfl⟩) h ?_
            rintro _ μ11 ⟨v11, rfl, h⟩ hn11
            show G Γ m_FB_perform (d + 1) (0, 0) Q 119 [.ref r0, jk, .ref r2, .int x3, .int (xI μ1 a2 x3.toNatClampNeg)] [.int v11] μ11
            refine run_ok (pc' := 26) [(.pop, 0, 0, 0), (.goto 39, 0, 0, 0), (.iinc 3 1, 0, 0, 0), (.goto (-136), 0, 0, 0)] _ _ _ _ (by decide +kernel) ?_
            show G Γ m_FB_perform (d + 1) (0, 0) Q 26 [.ref r0, jk, .ref r2, .int (x3 + w 1), .int (xI μ1 a2 x3.toNatClampNeg)] [] μ11
            exact g_wk (ls' := [.ref r0, jk, .ref r2, .int (x3 + w 1)]) ⟨Or.inr rfl, Or.inl rfl, Or.inr rfl, Or.inr rfl, trivial⟩ h
          · replace h := h.1 hc
            show G Γ m_FB_perform (d + 1) (0, 0) Q 111 [.ref r0, jk, .ref r2, .int x3, .int (xI μ1 a2 x3.toNatClampNeg)] [.int (xI μ1 a7 x3.toNatClampNeg), .int (xI μ1 a2 x3.toNatClampNeg), .ref r0] μ1
            refine run_ok (pc' := 116) [(.iconst 1, 0, 0, 0), (.goto 4, 0, 0, 0)] _ _ _ _ (by decide +kernel) ?_
            show G Γ m_FB_perform (d + 1) (0, 0) Q 116 [.ref r0, jk, .ref r2, .int x3, .int (xI μ1 a2 x3.toNatClampNeg)] [.int (w 1), .int (xI μ1 a7 x3.toNatClampNeg), .int (xI μ1 a2 x3.toNatClampNeg), .ref r0] μ1
            refine g_invV (M' := m_FB_put) (b1 := 0) (b2 := 0) (As := [.int (xI μ1 a2 x3.toNatClampNeg), .int (xI μ1 a7 x3.toNatClampNeg), .int (w 1)]) (a := r0) (st := []) lk_10_333 (by decide +kernel) rfl (dk_FB_put d) (Nat.le_of_ble_eq_true rfl) (Or.inl ⟨10, ((o_r0_10).mono hn1), rfl⟩) h ?_
            rintro _ μ12 ⟨v12, rfl, h⟩ hn12
            show G Γ m_FB_perform (d + 1) (0, 0) Q 119 [.ref r0, jk, .ref r2, .int x3, .int (xI μ1 a2 x3.toNatClampNeg)] [.int v12] μ12
            refine run_ok (pc' := 26) [(.pop, 0, 0, 0), (.goto 39, 0, 0, 0), (.iinc 3 1, 0, 0, 0), (.goto (-136), 0, 0, 0)] _ _ _ _ (by decide +kernel) ?_
            show G Γ m_FB_perform (d + 1) (0, 0) Q 26 [.ref r0, jk, .ref r2, .int (x3 + w 1), .int (xI μ1 a2 x3.toNatClampNeg)] [] μ12
            exact g_wk (ls' := [.ref r0, jk, .ref r2, .int (x3 + w 1)]) ⟨Or.inr rfl, Or.inl rfl, Or.inr rfl, Or.inr rfl, trivial⟩ h
        | 1, _, hc =>
          replace h := h.2.1 hc
          refine ⟨123, 62, rfl, by decide, ?_⟩
          show G Γ m_FB_perform (d + 1) (0, 0) Q 123 [.ref r0, jk, .ref r2, .int x3, .int (xI μ1 a2 x3.toNatClampNeg)] [] μ1
          refine run_ok (pc' := 126) [(.aload_n 0, 0, 0, 0), (.iload 4, 0, 0, 0)] _ _ _ _ (by decide +kernel) ?_
          show G Γ m_FB_perform (d + 1) (0, 0) Q 126 [.ref r0, jk, .ref r2, .int x3, .int (xI μ1 a2 x3.toNatClampNeg)] [.int (xI μ1 a2 x3.toNatClampNeg), .ref r0] μ1
          refine g_invV (M' := m_FB_take) (b1 := 0) (b2 := 0) (As := [.int (xI μ1 a2 x3.toNatClampNeg)]) (a := r0) (st := []) lk_10_337 (by decide +kernel) rfl (dk_FB_take d) (Nat.le_of_ble_eq_true rfl) (Or.inl ⟨10, ((o_r0_10).mono hn1), rfl⟩) h ?_
          rintro _ μ13 ⟨v13, rfl, h⟩ hn13
          show G Γ m_FB_perform (d + 1) (0, 0) Q 129 [.ref r0, jk, .ref r2, .int x3, .int (xI μ1 a2 x3.toNatClampNeg)] [.int v13] μ13
          refine run_ok (pc' := 26) [(.pop, 0, 0, 0), (.goto 29, 0, 0, 0), (.iinc 3 1, 0, 0, 0), (.goto (-136), 0, 0, 0)] _ _ _ _ (by decide +kernel) ?_
          show G Γ m_FB_perform (d + 1) (0, 0) Q 26 [.ref r0, jk, .ref r2, .int (x3 + w 1), .int (xI μ1 a2 x3.toNatClampNeg)] [] μ13
          exact g_wk (ls' := [.ref r0, jk, .ref r2, .int (x3 + w 1)]) ⟨Or.inr rfl, Or.inl rfl, Or.inr rfl, Or.inr rfl, trivial⟩ h
        | 2, _, hc =>
          replace h := h.2.2.1 hc
          refine ⟨133, 72, rfl, by decide, ?_⟩
          show G Γ m_FB_perform (d + 1) (0, 0) Q 133 [.ref r0, jk, .ref r2, .int x3, .int (xI μ1 a2 x3.toNatClampNeg)] [] μ1
          refine run_ok (pc' := 136) [(.aload_n 0, 0, 0, 0), (.iload 4, 0, 0, 0)] _ _ _ _ (by decide +kernel) ?_
          show G Γ m_FB_perform (d + 1) (0, 0) Q 136 [.ref r0, jk, .ref r2, .int x3, .int (xI μ1 a2 x3.toNatClampNeg)] [.int (xI μ1 a2 x3.toNatClampNeg), .ref r0] μ1
          refine g_invV (M' := m_FB_label) (b1 := 0) (b2 := 0) (As := [.int (xI μ1 a2 x3.toNatClampNeg)]) (a := r0) (st := []) lk_10_340 (by decide +kernel) rfl (dk_FB_label d) (Nat.le_of_ble_eq_true rfl) (Or.inl ⟨10, ((o_r0_10).mono hn1), rfl⟩) h ?_
          rintro _ μ14 ⟨v14, rfl, h⟩ hn14
          show G Γ m_FB_perform (d + 1) (0, 0) Q 139 [.ref r0, jk, .ref r2, .int x3, .int (xI μ1 a2 x3.toNatClampNeg)] [.int v14] μ14
          refine run_ok (pc' := 26) [(.pop, 0, 0, 0), (.goto 19, 0, 0, 0), (.iinc 3 1, 0, 0, 0), (.goto (-136), 0, 0, 0)] _ _ _ _ (by decide +kernel) ?_
          show G Γ m_FB_perform (d + 1) (0, 0) Q 26 [.ref r0, jk, .ref r2, .int (x3 + w 1), .int (xI μ1 a2 x3.toNatClampNeg)] [] μ14
          exact g_wk (ls' := [.ref r0, jk, .ref r2, .int (x3 + w 1)]) ⟨Or.inr rfl, Or.inl rfl, Or.inr rfl, Or.inr rfl, trivial⟩ h
        | 3, _, hc =>
          replace h := h.2.2.2 hc
          refine ⟨143, 82, rfl, by decide, ?_⟩
          show G Γ m_FB_perform (d + 1) (0, 0) Q 143 [.ref r0, jk, .ref r2, .int x3, .int (xI μ1 a2 x3.toNatClampNeg)] [] μ1
          refine run_ok (pc' := 146) [(.aload_n 0, 0, 0, 0), (.iload 4, 0, 0, 0)] _ _ _ _ (by decide +kernel) ?_
          show G Γ m_FB_perform (d + 1) (0, 0) Q 146 [.ref r0, jk, .ref r2, .int x3, .int (xI μ1 a2 x3.toNatClampNeg)] [.int (xI μ1 a2 x3.toNatClampNeg), .ref r0] μ1
          refine g_invV (M' := m_FB_passMonthsAsActs) (b1 := 0) (b2 := 0) (As := [.int (xI μ1 a2 x3.toNatClampNeg)]) (a := r0) (st := []) lk_10_266 (by decide +kernel) rfl (dk_FB_passMonthsAsActs d) (Nat.le_of_ble_eq_true rfl) (Or.inl ⟨10, ((o_r0_10).mono hn1), rfl⟩) h ?_
          rintro _ μ15 ⟨rfl, h⟩ hn15
          show G Γ m_FB_perform (d + 1) (0, 0) Q 149 [.ref r0, jk, .ref r2, .int x3, .int (xI μ1 a2 x3.toNatClampNeg)] [] μ15
          refine run_ok (pc' := 26) [(.goto 10, 0, 0, 0), (.iinc 3 1, 0, 0, 0), (.goto (-136), 0, 0, 0)] _ _ _ _ (by decide +kernel) ?_
          show G Γ m_FB_perform (d + 1) (0, 0) Q 26 [.ref r0, jk, .ref r2, .int (x3 + w 1), .int (xI μ1 a2 x3.toNatClampNeg)] [] μ15
          exact g_wk (ls' := [.ref r0, jk, .ref r2, .int (x3 + w 1)]) ⟨Or.inr rfl, Or.inl rfl, Or.inr rfl, Or.inr rfl, trivial⟩ h
        | k + 4, hk, _ => exact absurd hk (by omega)
/-! FrostBox dinner(II)I -/
set_option maxRecDepth 100000 in
theorem lk_10_346 : LkV 10 346 m_FB_fillValues 0 := ⟨lc_FB_fillValues, lwG_in (List.mem_of_getElem? (i := 906) rfl) rfl, lwG_in (List.mem_of_getElem? (i := 908) rfl) rfl, lwG_in (List.mem_of_getElem? (i := 35) rfl) rfl⟩
set_option maxRecDepth 100000 in
theorem lk_10_355 : LkV 10 355 m_FB_valueOfSet 1 := ⟨lc_FB_valueOfSet, lwG_in (List.mem_of_getElem? (i := 922) rfl) rfl, lwG_in (List.mem_of_getElem? (i := 924) rfl) rfl, lwG_in (List.mem_of_getElem? (i := 38) rfl) rfl⟩
set_option maxRecDepth 100000 in
theorem lk_10_352 : LkV 10 352 m_FB_goesTogether 1 := ⟨lc_FB_goesTogether, lwG_in (List.mem_of_getElem? (i := 914) rfl) rfl, lwG_in (List.mem_of_getElem? (i := 916) rfl) rfl, lwG_in (List.mem_of_getElem? (i := 37) rfl) rfl⟩
set_option maxRecDepth 100000 in
theorem lk_10_349 : LkV 10 349 m_FB_portionsOf 1 := ⟨lc_FB_portionsOf, lwG_in (List.mem_of_getElem? (i := 910) rfl) rfl, lwG_in (List.mem_of_getElem? (i := 912) rfl) rfl, lwG_in (List.mem_of_getElem? (i := 36) rfl) rfl⟩
set_option maxRecDepth 100000 in
theorem B_FB_dinner_0 {Γ : XG} {d : Nat} {Q : Option Value → XM → Prop} {r0 : Nat} {x1 x2 : Int32} {μ : XM} (o_r0_10 : ob μ r0 10) (h : Call Γ m_FB_hasHouse d [.ref r0] μ (KI (fun v1 μ1 => ((v1 = w 0 → Q (some (.int (w (-1)))) μ1) ∧ (¬ v1 = w 0 → ((x1 < w 1 → Q (some (.int (w (-1)))) μ1) ∧ (¬ x1 < w 1 → ((w 30 < x1 → Q (some (.int (w (-1)))) μ1) ∧ (¬ w 30 < x1 → ((x2 < w 0 → Q (some (.int (w (-1)))) μ1) ∧ (¬ x2 < w 0 → ((w 1 < x2 → Q (some (.int (w (-1)))) μ1) ∧ (¬ w 1 < x2 → Call Γ m_FB_fillValues d [.ref r0] μ1 (KV (fun μ2 => G Γ m_FB_dinner (d + 1) (0, 0) Q 44 [.ref r0, .int x1, .int x2, .int (w (-1)), .int (w (-1)), .int (w 0), .int (w 1)] [] μ2))))))))))))))) : G Γ m_FB_dinner (d + 1) (0, 0) Q 0 [.ref r0, .int x1, .int x2] [] μ := by
  refine run_ok (pc' := 1) [(.aload_n 0, 0, 0, 0)] _ _ _ _ (by decide +kernel) ?_
  show G Γ m_FB_dinner (d + 1) (0, 0) Q 1 [.ref r0, .int x1, .int x2] [.ref r0] μ
  refine g_invV (M' := m_FB_hasHouse) (b1 := 0) (b2 := 0) (As := []) (a := r0) (st := []) lk_10_162 (by decide +kernel) rfl (dk_FB_hasHouse d) (Nat.le_of_ble_eq_true rfl) (Or.inl ⟨10, o_r0_10, rfl⟩) h ?_
  rintro _ μ1 ⟨v1, rfl, h⟩ hn1
  show G Γ m_FB_dinner (d + 1) (0, 0) Q 4 [.ref r0, .int x1, .int x2] [.int v1] μ1
  refine g_ifz_eq (pc' := 27) (off := 23) (by decide) (by decide +kernel) (fun hc => ?_) (fun hc => ?_)
  · replace h := h.1 hc
    show G Γ m_FB_dinner (d + 1) (0, 0) Q 27 [.ref r0, .int x1, .int x2] [] μ1
    refine run_ok (pc' := 28) [(.iconst (-1), 0, 0, 0)] _ _ _ _ (by decide +kernel) ?_
    show G Γ m_FB_dinner (d + 1) (0, 0) Q 28 [.ref r0, .int x1, .int x2] [.int (w (-1))] μ1
    exact g_reti (by decide +kernel) rfl h
  · replace h := h.2 hc
    show G Γ m_FB_dinner (d + 1) (0, 0) Q 7 [.ref r0, .int x1, .int x2] [] μ1
    refine run_ok (pc' := 9) [(.iload_n 1, 0, 0, 0), (.iconst 1, 0, 0, 0)] _ _ _ _ (by decide +kernel) ?_
    show G Γ m_FB_dinner (d + 1) (0, 0) Q 9 [.ref r0, .int x1, .int x2] [.int (w 1), .int x1] μ1
    refine g_icmp_lt (pc' := 27) (off := 18) (by decide) (by decide +kernel) (fun hc => ?_) (fun hc => ?_)
    · replace h := h.1 hc
      show G Γ m_FB_dinner (d + 1) (0, 0) Q 27 [.ref r0, .int x1, .int x2] [] μ1
      refine run_ok (pc' := 28) [(.iconst (-1), 0, 0, 0)] _ _ _ _ (by decide +kernel) ?_
      show G Γ m_FB_dinner (d + 1) (0, 0) Q 28 [.ref r0, .int x1, .int x2] [.int (w (-1))] μ1
      exact g_reti (by decide +kernel) rfl h
    · replace h := h.2 hc
      show G Γ m_FB_dinner (d + 1) (0, 0) Q 12 [.ref r0, .int x1, .int x2] [] μ1
      refine run_ok (pc' := 15) [(.iload_n 1, 0, 0, 0), (.bipush 30, 0, 0, 0)] _ _ _ _ (by decide +kernel) ?_
      show G Γ m_FB_dinner (d + 1) (0, 0) Q 15 [.ref r0, .int x1, .int x2] [.int (w 30), .int x1] μ1
      refine g_icmp_gt (pc' := 27) (off := 12) (by decide) (by decide +kernel) (fun hc => ?_) (fun hc => ?_)
      · replace h := h.1 hc
        show G Γ m_FB_dinner (d + 1) (0, 0) Q 27 [.ref r0, .int x1, .int x2] [] μ1
        refine run_ok (pc' := 28) [(.iconst (-1), 0, 0, 0)] _ _ _ _ (by decide +kernel) ?_
        show G Γ m_FB_dinner (d + 1) (0, 0) Q 28 [.ref r0, .int x1, .int x2] [.int (w (-1))] μ1
        exact g_reti (by decide +kernel) rfl h
      · replace h := h.2 hc
        show G Γ m_FB_dinner (d + 1) (0, 0) Q 18 [.ref r0, .int x1, .int x2] [] μ1
        refine run_ok (pc' := 19) [(.iload_n 2, 0, 0, 0)] _ _ _ _ (by decide +kernel) ?_
        show G Γ m_FB_dinner (d + 1) (0, 0) Q 19 [.ref r0, .int x1, .int x2] [.int x2] μ1
        refine g_ifz_lt (pc' := 27) (off := 8) (by decide) (by decide +kernel) (fun hc => ?_) (fun hc => ?_)
        · replace h := h.1 hc
          show G Γ m_FB_dinner (d + 1) (0, 0) Q 27 [.ref r0, .int x1, .int x2] [] μ1
          refine run_ok (pc' := 28) [(.iconst (-1), 0, 0, 0)] _ _ _ _ (by decide +kernel) ?_
          show G Γ m_FB_dinner (d + 1) (0, 0) Q 28 [.ref r0, .int x1, .int x2] [.int (w (-1))] μ1
          exact g_reti (by decide +kernel) rfl h
        · replace h := h.2 hc
          show G Γ m_FB_dinner (d + 1) (0, 0) Q 22 [.ref r0, .int x1, .int x2] [] μ1
          refine run_ok (pc' := 24) [(.iload_n 2, 0, 0, 0), (.iconst 1, 0, 0, 0)] _ _ _ _ (by decide +kernel) ?_
          show G Γ m_FB_dinner (d + 1) (0, 0) Q 24 [.ref r0, .int x1, .int x2] [.int (w 1), .int x2] μ1
          refine g_icmp_le (pc' := 29) (off := 5) (by decide) (by decide +kernel) (fun hc => ?_) (fun hc => ?_)
          · replace h := h.2 hc
            show G Γ m_FB_dinner (d + 1) (0, 0) Q 29 [.ref r0, .int x1, .int x2] [] μ1
            refine run_ok (pc' := 30) [(.aload_n 0, 0, 0, 0)] _ _ _ _ (by decide +kernel) ?_
            show G Γ m_FB_dinner (d + 1) (0, 0) Q 30 [.ref r0, .int x1, .int x2] [.ref r0] μ1
            refine g_invV (M' := m_FB_fillValues) (b1 := 0) (b2 := 0) (As := []) (a := r0) (st := []) lk_10_346 (by decide +kernel) rfl (dk_FB_fillValues d) (Nat.le_of_ble_eq_true rfl) (Or.inl ⟨10, ((o_r0_10).mono hn1), rfl⟩) h ?_
            rintro _ μ2 ⟨rfl, h⟩ hn2
            show G Γ m_FB_dinner (d + 1) (0, 0) Q 33 [.ref r0, .int x1, .int x2] [] μ2
            refine run_ok (pc' := 44) [(.iconst (-1), 0, 0, 0), (.istore_n 3, 0, 0, 0), (.iconst (-1), 0, 0, 0), (.istore 4, 0, 0, 0), (.iconst 0, 0, 0, 0), (.istore 5, 0, 0, 0), (.iconst 1, 0, 0, 0), (.istore 6, 0, 0, 0)] _ _ _ _ (by decide +kernel) ?_
            show G Γ m_FB_dinner (d + 1) (0, 0) Q 44 [.ref r0, .int x1, .int x2, .int (w (-1)), .int (w (-1)), .int (w 0), .int (w 1)] [] μ2
            exact h
          · replace h := h.1 hc
            show G Γ m_FB_dinner (d + 1) (0, 0) Q 27 [.ref r0, .int x1, .int x2] [] μ1
            refine run_ok (pc' := 28) [(.iconst (-1), 0, 0, 0)] _ _ _ _ (by decide +kernel) ?_
            show G Γ m_FB_dinner (d + 1) (0, 0) Q 28 [.ref r0, .int x1, .int x2] [.int (w (-1))] μ1
            exact g_reti (by decide +kernel) rfl h
set_option maxRecDepth 100000 in
theorem B_FB_dinner_44 {Γ : XG} {d : Nat} {Q : Option Value → XM → Prop} {r0 r0_9 : Nat} {x1 x2 x3 x4 x5 x6 : Int32} {μ : XM} (o_r0_10 : ob μ r0 10) (e_r0_9 : xR μ r0 9 = some r0_9) (o_r0_9_6 : ob μ r0_9 6) (h : ((x6 < (w 1) <<< ((xI μ r0_9 4) &&& 31) → Call Γ m_FB_portionsOf d [.ref r0, .int x6] μ (KI (fun v1 μ1 => ((v1 < x1 → G Γ m_FB_dinner (d + 1) (0, 0) Q 44 [.ref r0, .int x1, .int x2, .int x3, .int x4, .int x5, .int (x6 + w 1)] [] μ1) ∧ (¬ v1 < x1 → Call Γ m_FB_goesTogether d [.ref r0, .int x6] μ1 (KI (fun v2 μ2 => ((v2 = w 0 → G Γ m_FB_dinner (d + 1) (0, 0) Q 44 [.ref r0, .int x1, .int x2, .int x3, .int x4, .int x5, .int (x6 + w 1)] [] μ2) ∧ (¬ v2 = w 0 → Call Γ m_FB_valueOfSet d [.ref r0, .int x6] μ2 (KI (fun v3 μ3 => ¬ v1 = 0 ∧ ((x4 < (v3 * (w 100)) / v1 → G Γ m_FB_dinner (d + 1) (0, 0) Q 44 [.ref r0, .int x1, .int x2, .int x6, .int ((v3 * (w 100)) / v1), .int v1, .int (x6 + w 1)] [] μ3) ∧ (¬ x4 < (v3 * (w 100)) / v1 → (((v3 * (w 100)) / v1 = x4 → ((v1 < x5 → G Γ m_FB_dinner (d + 1) (0, 0) Q 44 [.ref r0, .int x1, .int x2, .int x6, .int ((v3 * (w 100)) / v1), .int v1, .int (x6 + w 1)] [] μ3) ∧ (¬ v1 < x5 → G Γ m_FB_dinner (d + 1) (0, 0) Q 44 [.ref r0, .int x1, .int x2, .int x3, .int x4, .int x5, .int (x6 + w 1)] [] μ3))) ∧ (¬ (v3 * (w 100)) / v1 = x4 → G Γ m_FB_dinner (d + 1) (0, 0) Q 44 [.ref r0, .int x1, .int x2, .int x3, .int x4, .int x5, .int (x6 + w 1)] [] μ3))))))))))))))) ∧ (¬ x6 < (w 1) <<< ((xI μ r0_9 4) &&& 31) → ((x2 = w 0 → Q (some (.int x3)) μ) ∧ (¬ x2 = w 0 → Q (some (.int x4)) μ))))) : G Γ m_FB_dinner (d + 1) (0, 0) Q 44 [.ref r0, .int x1, .int x2, .int x3, .int x4, .int x5, .int x6] [] μ := by
  refine run_ok (pc' := 55) [(.iload 6, 0, 0, 0), (.iconst 1, 0, 0, 0), (.aload_n 0, 0, 0, 0), (.getfield 48, 10, 9, 2), (.getfield 223, 6, 4, 0), (.ishl, 0, 0, 0)] _ _ _ _ (by decide +kernel) ?_
  show _ ∧ (∃ _, _ ∧ (_ ∧ (_)))
  refine ⟨o_r0_10, r0_9, e_r0_9, o_r0_9_6, ?_⟩
  show G Γ m_FB_dinner (d + 1) (0, 0) Q 55 [.ref r0, .int x1, .int x2, .int x3, .int x4, .int x5, .int x6] [.int ((w 1) <<< ((xI μ r0_9 4) &&& 31)), .int x6] μ
  refine g_icmp_ge (pc' := 136) (off := 81) (by decide) (by decide +kernel) (fun hc => ?_) (fun hc => ?_)
  · replace h := h.2 hc
    show G Γ m_FB_dinner (d + 1) (0, 0) Q 136 [.ref r0, .int x1, .int x2, .int x3, .int x4, .int x5, .int x6] [] μ
    refine run_ok (pc' := 137) [(.iload_n 2, 0, 0, 0)] _ _ _ _ (by decide +kernel) ?_
    show G Γ m_FB_dinner (d + 1) (0, 0) Q 137 [.ref r0, .int x1, .int x2, .int x3, .int x4, .int x5, .int x6] [.int x2] μ
    refine g_ifz_ne (pc' := 144) (off := 7) (by decide) (by decide +kernel) (fun hc => ?_) (fun hc => ?_)
    · replace h := h.2 hc
      show G Γ m_FB_dinner (d + 1) (0, 0) Q 144 [.ref r0, .int x1, .int x2, .int x3, .int x4, .int x5, .int x6] [] μ
      refine run_ok (pc' := 146) [(.iload 4, 0, 0, 0)] _ _ _ _ (by decide +kernel) ?_
      show G Γ m_FB_dinner (d + 1) (0, 0) Q 146 [.ref r0, .int x1, .int x2, .int x3, .int x4, .int x5, .int x6] [.int x4] μ
      exact g_reti (by decide +kernel) rfl h
    · replace h := h.1 hc
      show G Γ m_FB_dinner (d + 1) (0, 0) Q 140 [.ref r0, .int x1, .int x2, .int x3, .int x4, .int x5, .int x6] [] μ
      refine run_ok (pc' := 146) [(.iload_n 3, 0, 0, 0), (.goto 5, 0, 0, 0)] _ _ _ _ (by decide +kernel) ?_
      show G Γ m_FB_dinner (d + 1) (0, 0) Q 146 [.ref r0, .int x1, .int x2, .int x3, .int x4, .int x5, .int x6] [.int x3] μ
      exact g_reti (by decide +kernel) rfl h
  · replace h := h.1 hc
    show G Γ m_FB_dinner (d + 1) (0, 0) Q 58 [.ref r0, .int x1, .int x2, .int x3, .int x4, .int x5, .int x6] [] μ
    refine run_ok (pc' := 61) [(.aload_n 0, 0, 0, 0), (.iload 6, 0, 0, 0)] _ _ _ _ (by decide +kernel) ?_
    show G Γ m_FB_dinner (d + 1) (0, 0) Q 61 [.ref r0, .int x1, .int x2, .int x3, .int x4, .int x5, .int x6] [.int x6, .ref r0] μ
    refine g_invV (M' := m_FB_portionsOf) (b1 := 0) (b2 := 0) (As := [.int x6]) (a := r0) (st := []) lk_10_349 (by decide +kernel) rfl (dk_FB_portionsOf d) (Nat.le_of_ble_eq_true rfl) (Or.inl ⟨10, o_r0_10, rfl⟩) h ?_
    rintro _ μ1 ⟨v1, rfl, h⟩ hn1
    show G Γ m_FB_dinner (d + 1) (0, 0) Q 64 [.ref r0, .int x1, .int x2, .int x3, .int x4, .int x5, .int x6] [.int v1] μ1
    refine run_ok (pc' := 69) [(.istore 7, 0, 0, 0), (.iload 7, 0, 0, 0), (.iload_n 1, 0, 0, 0)] _ _ _ _ (by decide +kernel) ?_
    show G Γ m_FB_dinner (d + 1) (0, 0) Q 69 [.ref r0, .int x1, .int x2, .int x3, .int x4, .int x5, .int x6, .int v1] [.int x1, .int v1] μ1
    refine g_icmp_lt (pc' := 130) (off := 61) (by decide) (by decide +kernel) (fun hc => ?_) (fun hc => ?_)
    · replace h := h.1 hc
      show G Γ m_FB_dinner (d + 1) (0, 0) Q 130 [.ref r0, .int x1, .int x2, .int x3, .int x4, .int x5, .int x6, .int v1] [] μ1
      refine run_ok (pc' := 44) [(.iinc 6 1, 0, 0, 0), (.goto (-89), 0, 0, 0)] _ _ _ _ (by decide +kernel) ?_
      show G Γ m_FB_dinner (d + 1) (0, 0) Q 44 [.ref r0, .int x1, .int x2, .int x3, .int x4, .int x5, .int (x6 + w 1), .int v1] [] μ1
      exact g_wk (ls' := [.ref r0, .int x1, .int x2, .int x3, .int x4, .int x5, .int (x6 + w 1)]) ⟨Or.inr rfl, Or.inr rfl, Or.inr rfl, Or.inr rfl, Or.inr rfl, Or.inr rfl, Or.inr rfl, trivial⟩ h
    · replace h := h.2 hc
      show G Γ m_FB_dinner (d + 1) (0, 0) Q 72 [.ref r0, .int x1, .int x2, .int x3, .int x4, .int x5, .int x6, .int v1] [] μ1
      refine run_ok (pc' := 75) [(.aload_n 0, 0, 0, 0), (.iload 6, 0, 0, 0)] _ _ _ _ (by decide +kernel) ?_
      show G Γ m_FB_dinner (d + 1) (0, 0) Q 75 [.ref r0, .int x1, .int x2, .int x3, .int x4, .int x5, .int x6, .int v1] [.int x6, .ref r0] μ1
      refine g_invV (M' := m_FB_goesTogether) (b1 := 0) (b2 := 0) (As := [.int x6]) (a := r0) (st := []) lk_10_352 (by decide +kernel) rfl (dk_FB_goesTogether d) (Nat.le_of_ble_eq_true rfl) (Or.inl ⟨10, ((o_r0_10).mono hn1), rfl⟩) h ?_
      rintro _ μ2 ⟨v2, rfl, h⟩ hn2
      show G Γ m_FB_dinner (d + 1) (0, 0) Q 78 [.ref r0, .int x1, .int x2, .int x3, .int x4, .int x5, .int x6, .int v1] [.int v2] μ2
      refine g_ifz_ne (pc' := 84) (off := 6) (by decide) (by decide +kernel) (fun hc => ?_) (fun hc => ?_)
      · replace h := h.2 hc
        show G Γ m_FB_dinner (d + 1) (0, 0) Q 84 [.ref r0, .int x1, .int x2, .int x3, .int x4, .int x5, .int x6, .int v1] [] μ2
        refine run_ok (pc' := 87) [(.aload_n 0, 0, 0, 0), (.iload 6, 0, 0, 0)] _ _ _ _ (by decide +kernel) ?_
        show G Γ m_FB_dinner (d + 1) (0, 0) Q 87 [.ref r0, .int x1, .int x2, .int x3, .int x4, .int x5, .int x6, .int v1] [.int x6, .ref r0] μ2
        refine g_invV (M' := m_FB_valueOfSet) (b1 := 0) (b2 := 0) (As := [.int x6]) (a := r0) (st := []) lk_10_355 (by decide +kernel) rfl (dk_FB_valueOfSet d) (Nat.le_of_ble_eq_true rfl) (Or.inl ⟨10, (((o_r0_10).mono hn1).mono hn2), rfl⟩) h ?_
        rintro _ μ3 ⟨v3, rfl, h⟩ hn3
        show G Γ m_FB_dinner (d + 1) (0, 0) Q 90 [.ref r0, .int x1, .int x2, .int x3, .int x4, .int x5, .int x6, .int v1] [.int v3] μ3
        obtain ⟨nz4, h⟩ := h
        refine run_ok (pc' := 102) [(.bipush 100, 0, 0, 0), (.imul, 0, 0, 0), (.iload 7, 0, 0, 0), (.idiv, 0, 0, 0), (.istore 8, 0, 0, 0), (.iload 8, 0, 0, 0), (.iload 4, 0, 0, 0)] _ _ _ _ (by decide +kernel) ?_
        show _ ∧ (_)
        refine ⟨nz4, ?_⟩
        show G Γ m_FB_dinner (d + 1) (0, 0) Q 102 [.ref r0, .int x1, .int x2, .int x3, .int x4, .int x5, .int x6, .int v1, .int ((v3 * (w 100)) / v1)] [.int x4, .int ((v3 * (w 100)) / v1)] μ3
        refine g_icmp_gt (pc' := 119) (off := 17) (by decide) (by decide +kernel) (fun hc => ?_) (fun hc => ?_)
        · replace h := h.1 hc
          show G Γ m_FB_dinner (d + 1) (0, 0) Q 119 [.ref r0, .int x1, .int x2, .int x3, .int x4, .int x5, .int x6, .int v1, .int ((v3 * (w 100)) / v1)] [] μ3
          refine run_ok (pc' := 44) [(.iload 6, 0, 0, 0), (.istore_n 3, 0, 0, 0), (.iload 8, 0, 0, 0), (.istore 4, 0, 0, 0), (.iload 7, 0, 0, 0), (.istore 5, 0, 0, 0), (.iinc 6 1, 0, 0, 0), (.goto (-89), 0, 0, 0)] _ _ _ _ (by decide +kernel) ?_
          show G Γ m_FB_dinner (d + 1) (0, 0) Q 44 [.ref r0, .int x1, .int x2, .int x6, .int ((v3 * (w 100)) / v1), .int v1, .int (x6 + w 1), .int v1, .int ((v3 * (w 100)) / v1)] [] μ3
          exact g_wk (ls' := [.ref r0, .int x1, .int x2, .int x6, .int ((v3 * (w 100)) / v1), .int v1, .int (x6 + w 1)]) ⟨Or.inr rfl, Or.inr rfl, Or.inr rfl, Or.inr rfl, Or.inr rfl, Or.inr rfl, Or.inr rfl, trivial⟩ h
        · replace h := h.2 hc
          show G Γ m_FB_dinner (d + 1) (0, 0) Q 105 [.ref r0, .int x1, .int x2, .int x3, .int x4, .int x5, .int x6, .int v1, .int ((v3 * (w 100)) / v1)] [] μ3
          refine run_ok (pc' := 109) [(.iload 8, 0, 0, 0), (.iload 4, 0, 0, 0)] _ _ _ _ (by decide +kernel) ?_
          show G Γ m_FB_dinner (d + 1) (0, 0) Q 109 [.ref r0, .int x1, .int x2, .int x3, .int x4, .int x5, .int x6, .int v1, .int ((v3 * (w 100)) / v1)] [.int x4, .int ((v3 * (w 100)) / v1)] μ3
          refine g_icmp_ne (pc' := 130) (off := 21) (by decide) (by decide +kernel) (fun hc => ?_) (fun hc => ?_)
          · replace h := h.2 hc
            show G Γ m_FB_dinner (d + 1) (0, 0) Q 130 [.ref r0, .int x1, .int x2, .int x3, .int x4, .int x5, .int x6, .int v1, .int ((v3 * (w 100)) / v1)] [] μ3
            refine run_ok (pc' := 44) [(.iinc 6 1, 0, 0, 0), (.goto (-89), 0, 0, 0)] _ _ _ _ (by decide +kernel) ?_
            show G Γ m_FB_dinner (d + 1) (0, 0) Q 44 [.ref r0, .int x1, .int x2, .int x3, .int x4, .int x5, .int (x6 + w 1), .int v1, .int ((v3 * (w 100)) / v1)] [] μ3
            exact g_wk (ls' := [.ref r0, .int x1, .int x2, .int x3, .int x4, .int x5, .int (x6 + w 1)]) ⟨Or.inr rfl, Or.inr rfl, Or.inr rfl, Or.inr rfl, Or.inr rfl, Or.inr rfl, Or.inr rfl, trivial⟩ h
          · replace h := h.1 hc
            show G Γ m_FB_dinner (d + 1) (0, 0) Q 112 [.ref r0, .int x1, .int x2, .int x3, .int x4, .int x5, .int x6, .int v1, .int ((v3 * (w 100)) / v1)] [] μ3
            refine run_ok (pc' := 116) [(.iload 7, 0, 0, 0), (.iload 5, 0, 0, 0)] _ _ _ _ (by decide +kernel) ?_
            show G Γ m_FB_dinner (d + 1) (0, 0) Q 116 [.ref r0, .int x1, .int x2, .int x3, .int x4, .int x5, .int x6, .int v1, .int ((v3 * (w 100)) / v1)] [.int x5, .int v1] μ3
            refine g_icmp_ge (pc' := 130) (off := 14) (by decide) (by decide +kernel) (fun hc => ?_) (fun hc => ?_)
            · replace h := h.2 hc
              show G Γ m_FB_dinner (d + 1) (0, 0) Q 130 [.ref r0, .int x1, .int x2, .int x3, .int x4, .int x5, .int x6, .int v1, .int ((v3 * (w 100)) / v1)] [] μ3
              refine run_ok (pc' := 44) [(.iinc 6 1, 0, 0, 0), (.goto (-89), 0, 0, 0)] _ _ _ _ (by decide +kernel) ?_
              show G Γ m_FB_dinner (d + 1) (0, 0) Q 44 [.ref r0, .int x1, .int x2, .int x3, .int x4, .int x5, .int (x6 + w 1), .int v1, .int ((v3 * (w 100)) / v1)] [] μ3
              exact g_wk (ls' := [.ref r0, .int x1, .int x2, .int x3, .int x4, .int x5, .int (x6 + w 1)]) ⟨Or.inr rfl, Or.inr rfl, Or.inr rfl, Or.inr rfl, Or.inr rfl, Or.inr rfl, Or.inr rfl, trivial⟩ h
            · replace h := h.1 hc
              show G Γ m_FB_dinner (d + 1) (0, 0) Q 119 [.ref r0, .int x1, .int x2, .int x3, .int x4, .int x5, .int x6, .int v1, .int ((v3 * (w 100)) / v1)] [] μ3
              refine run_ok (pc' := 44) [(.iload 6, 0, 0, 0), (.istore_n 3, 0, 0, 0), (.iload 8, 0, 0, 0), (.istore 4, 0, 0, 0), (.iload 7, 0, 0, 0), (.istore 5, 0, 0, 0), (.iinc 6 1, 0, 0, 0), (.goto (-89), 0, 0, 0)] _ _ _ _ (by decide +kernel) ?_
              show G Γ m_FB_dinner (d + 1) (0, 0) Q 44 [.ref r0, .int x1, .int x2, .int x6, .int ((v3 * (w 100)) / v1), .int v1, .int (x6 + w 1), .int v1, .int ((v3 * (w 100)) / v1)] [] μ3
              exact g_wk (ls' := [.ref r0, .int x1, .int x2, .int x6, .int ((v3 * (w 100)) / v1), .int v1, .int (x6 + w 1)]) ⟨Or.inr rfl, Or.inr rfl, Or.inr rfl, Or.inr rfl, Or.inr rfl, Or.inr rfl, Or.inr rfl, trivial⟩ h
      · replace h := h.1 hc
        show G Γ m_FB_dinner (d + 1) (0, 0) Q 81 [.ref r0, .int x1, .int x2, .int x3, .int x4, .int x5, .int x6, .int v1] [] μ2
        refine run_ok (pc' := 44) [(.goto 49, 0, 0, 0), (.iinc 6 1, 0, 0, 0), (.goto (-89), 0, 0, 0)] _ _ _ _ (by decide +kernel) ?_
        show G Γ m_FB_dinner (d + 1) (0, 0) Q 44 [.ref r0, .int x1, .int x2, .int x3, .int x4, .int x5, .int (x6 + w 1), .int v1] [] μ2
        exact g_wk (ls' := [.ref r0, .int x1, .int x2, .int x3, .int x4, .int x5, .int (x6 + w 1)]) ⟨Or.inr rfl, Or.inr rfl, Or.inr rfl, Or.inr rfl, Or.inr rfl, Or.inr rfl, Or.inr rfl, trivial⟩ h
/-! FrostBox portionsOf(I)I -/
set_option maxRecDepth 100000 in
theorem B_FB_portionsOf_0 {Γ : XG} {d : Nat} {Q : Option Value → XM → Prop} {r0 : Nat} {x1 : Int32} {μ : XM}  (h : G Γ m_FB_portionsOf (d + 1) (0, 0) Q 4 [.ref r0, .int x1, .int (w 0), .int (w 0)] [] μ) : G Γ m_FB_portionsOf (d + 1) (0, 0) Q 0 [.ref r0, .int x1] [] μ := by
  refine run_ok (pc' := 4) [(.iconst 0, 0, 0, 0), (.istore_n 2, 0, 0, 0), (.iconst 0, 0, 0, 0), (.istore_n 3, 0, 0, 0)] _ _ _ _ (by decide +kernel) ?_
  show G Γ m_FB_portionsOf (d + 1) (0, 0) Q 4 [.ref r0, .int x1, .int (w 0), .int (w 0)] [] μ
  exact h
set_option maxRecDepth 100000 in
theorem B_FB_portionsOf_4 {Γ : XG} {d : Nat} {Q : Option Value → XM → Prop} {r0 r0_9 r0_9_1 : Nat} {x1 x2 x3 : Int32} {μ : XM} (o_r0_10 : ob μ r0 10) (e_r0_9 : xR μ r0 9 = some r0_9) (o_r0_9_6 : ob μ r0_9 6) (e_r0_9_1 : xR μ r0_9 1 = some r0_9_1) (h : ((x3 < xI μ r0_9 4 → (((x1 >>> (x3 &&& 31)) &&& (w 1) = w 1 → Call Γ m_Pi_indexOf d [.ref r0_9, .int x3] μ (KI (fun v1 μ1 => inb μ1 0 r0_9_1 v1 ∧ G Γ m_FB_portionsOf (d + 1) (0, 0) Q 4 [.ref r0, .int x1, .int (x2 + (xI μ1 r0_9_1 v1.toNatClampNeg)), .int (x3 + w 1)] [] μ1))) ∧ (¬ (x1 >>> (x3 &&& 31)) &&& (w 1) = w 1 → G Γ m_FB_portionsOf (d + 1) (0, 0) Q 4 [.ref r0, .int x1, .int x2, .int (x3 + w 1)] [] μ))) ∧ (¬ x3 < xI μ r0_9 4 → Q (some (.int x2)) μ))) : G Γ m_FB_portionsOf (d + 1) (0, 0) Q 4 [.ref r0, .int x1, .int x2, .int x3] [] μ := by
  refine run_ok (pc' := 12) [(.iload_n 3, 0, 0, 0), (.aload_n 0, 0, 0, 0), (.getfield 48, 10, 9, 2), (.getfield 223, 6, 4, 0)] _ _ _ _ (by decide +kernel) ?_
  show _ ∧ (∃ _, _ ∧ (_ ∧ (_)))
  refine ⟨o_r0_10, r0_9, e_r0_9, o_r0_9_6, ?_⟩
  show G Γ m_FB_portionsOf (d + 1) (0, 0) Q 12 [.ref r0, .int x1, .int x2, .int x3] [.int (xI μ r0_9 4), .int x3] μ
  refine g_icmp_ge (pc' := 49) (off := 37) (by decide) (by decide +kernel) (fun hc => ?_) (fun hc => ?_)
  · replace h := h.2 hc
    show G Γ m_FB_portionsOf (d + 1) (0, 0) Q 49 [.ref r0, .int x1, .int x2, .int x3] [] μ
    refine run_ok (pc' := 50) [(.iload_n 2, 0, 0, 0)] _ _ _ _ (by decide +kernel) ?_
    show G Γ m_FB_portionsOf (d + 1) (0, 0) Q 50 [.ref r0, .int x1, .int x2, .int x3] [.int x2] μ
    exact g_reti (by decide +kernel) rfl h
  · replace h := h.1 hc
    show G Γ m_FB_portionsOf (d + 1) (0, 0) Q 15 [.ref r0, .int x1, .int x2, .int x3] [] μ
    refine run_ok (pc' := 21) [(.iload_n 1, 0, 0, 0), (.iload_n 3, 0, 0, 0), (.ishr, 0, 0, 0), (.iconst 1, 0, 0, 0), (.iand, 0, 0, 0), (.iconst 1, 0, 0, 0)] _ _ _ _ (by decide +kernel) ?_
    show G Γ m_FB_portionsOf (d + 1) (0, 0) Q 21 [.ref r0, .int x1, .int x2, .int x3] [.int (w 1), .int ((x1 >>> (x3 &&& 31)) &&& (w 1))] μ
    refine g_icmp_ne (pc' := 43) (off := 22) (by decide) (by decide +kernel) (fun hc => ?_) (fun hc => ?_)
    · replace h := h.2 hc
      show G Γ m_FB_portionsOf (d + 1) (0, 0) Q 43 [.ref r0, .int x1, .int x2, .int x3] [] μ
      refine run_ok (pc' := 4) [(.iinc 3 1, 0, 0, 0), (.goto (-42), 0, 0, 0)] _ _ _ _ (by decide +kernel) ?_
      show G Γ m_FB_portionsOf (d + 1) (0, 0) Q 4 [.ref r0, .int x1, .int x2, .int (x3 + w 1)] [] μ
      exact h
    · replace h := h.1 hc
      show G Γ m_FB_portionsOf (d + 1) (0, 0) Q 24 [.ref r0, .int x1, .int x2, .int x3] [] μ
      refine run_ok (pc' := 37) [(.iload_n 2, 0, 0, 0), (.aload_n 0, 0, 0, 0), (.getfield 48, 10, 9, 2), (.getfield 187, 6, 1, 2), (.aload_n 0, 0, 0, 0), (.getfield 48, 10, 9, 2), (.iload_n 3, 0, 0, 0)] _ _ _ _ (by decide +kernel) ?_
      show _ ∧ (∃ _, _ ∧ (_ ∧ (∃ _, _ ∧ (_ ∧ (∃ _, _ ∧ (_))))))
      refine ⟨o_r0_10, r0_9, e_r0_9, o_r0_9_6, r0_9_1, e_r0_9_1, o_r0_10, r0_9, e_r0_9, ?_⟩
      show G Γ m_FB_portionsOf (d + 1) (0, 0) Q 37 [.ref r0, .int x1, .int x2, .int x3] [.int x3, .ref r0_9, .ref r0_9_1, .int x2] μ
      refine g_invV (M' := m_Pi_indexOf) (b1 := 0) (b2 := 0) (As := [.int x3]) (a := r0_9) (st := [.ref r0_9_1, .int x2]) lk_10_182 (by decide +kernel) rfl (dk_Pi_indexOf d) (Nat.le_of_ble_eq_true rfl) (Or.inl ⟨6, o_r0_9_6, rfl⟩) h ?_
      rintro _ μ1 ⟨v1, rfl, h⟩ hn1
      show G Γ m_FB_portionsOf (d + 1) (0, 0) Q 40 [.ref r0, .int x1, .int x2, .int x3] [.int v1, .ref r0_9_1, .int x2] μ1
      obtain ⟨ib2, h⟩ := h
      refine run_ok (pc' := 4) [(.iaload, 0, 0, 0), (.iadd, 0, 0, 0), (.istore_n 2, 0, 0, 0), (.iinc 3 1, 0, 0, 0), (.goto (-42), 0, 0, 0)] _ _ _ _ (by decide +kernel) ?_
      show _ ∧ (_)
      refine ⟨ib2, ?_⟩
      show G Γ m_FB_portionsOf (d + 1) (0, 0) Q 4 [.ref r0, .int x1, .int (x2 + (xI μ1 r0_9_1 v1.toNatClampNeg)), .int (x3 + w 1)] [] μ1
      exact h
/-! FrostBox valueOfSet(I)I -/
set_option maxRecDepth 100000 in
theorem B_FB_valueOfSet_0 {Γ : XG} {d : Nat} {Q : Option Value → XM → Prop} {r0 : Nat} {x1 : Int32} {μ : XM}  (h : G Γ m_FB_valueOfSet (d + 1) (0, 0) Q 4 [.ref r0, .int x1, .int (w 0), .int (w 0)] [] μ) : G Γ m_FB_valueOfSet (d + 1) (0, 0) Q 0 [.ref r0, .int x1] [] μ := by
  refine run_ok (pc' := 4) [(.iconst 0, 0, 0, 0), (.istore_n 2, 0, 0, 0), (.iconst 0, 0, 0, 0), (.istore_n 3, 0, 0, 0)] _ _ _ _ (by decide +kernel) ?_
  show G Γ m_FB_valueOfSet (d + 1) (0, 0) Q 4 [.ref r0, .int x1, .int (w 0), .int (w 0)] [] μ
  exact h
set_option maxRecDepth 100000 in
theorem B_FB_valueOfSet_4 {Γ : XG} {d : Nat} {Q : Option Value → XM → Prop} {r0 r0_9 r0_18 : Nat} {x1 x2 x3 : Int32} {μ : XM} (o_r0_10 : ob μ r0 10) (e_r0_9 : xR μ r0 9 = some r0_9) (o_r0_9_6 : ob μ r0_9 6) (e_r0_18 : xR μ r0 18 = some r0_18) (h : ((x3 < xI μ r0_9 4 → (((x1 >>> (x3 &&& 31)) &&& (w 1) = w 1 → inb μ 0 r0_18 x3 ∧ G Γ m_FB_valueOfSet (d + 1) (0, 0) Q 4 [.ref r0, .int x1, .int (x2 + (xI μ r0_18 x3.toNatClampNeg)), .int (x3 + w 1)] [] μ) ∧ (¬ (x1 >>> (x3 &&& 31)) &&& (w 1) = w 1 → G Γ m_FB_valueOfSet (d + 1) (0, 0) Q 4 [.ref r0, .int x1, .int x2, .int (x3 + w 1)] [] μ))) ∧ (¬ x3 < xI μ r0_9 4 → Q (some (.int x2)) μ))) : G Γ m_FB_valueOfSet (d + 1) (0, 0) Q 4 [.ref r0, .int x1, .int x2, .int x3] [] μ := by
  refine run_ok (pc' := 12) [(.iload_n 3, 0, 0, 0), (.aload_n 0, 0, 0, 0), (.getfield 48, 10, 9, 2), (.getfield 223, 6, 4, 0)] _ _ _ _ (by decide +kernel) ?_
  show _ ∧ (∃ _, _ ∧ (_ ∧ (_)))
  refine ⟨o_r0_10, r0_9, e_r0_9, o_r0_9_6, ?_⟩
  show G Γ m_FB_valueOfSet (d + 1) (0, 0) Q 12 [.ref r0, .int x1, .int x2, .int x3] [.int (xI μ r0_9 4), .int x3] μ
  refine g_icmp_ge (pc' := 39) (off := 27) (by decide) (by decide +kernel) (fun hc => ?_) (fun hc => ?_)
  · replace h := h.2 hc
    show G Γ m_FB_valueOfSet (d + 1) (0, 0) Q 39 [.ref r0, .int x1, .int x2, .int x3] [] μ
    refine run_ok (pc' := 40) [(.iload_n 2, 0, 0, 0)] _ _ _ _ (by decide +kernel) ?_
    show G Γ m_FB_valueOfSet (d + 1) (0, 0) Q 40 [.ref r0, .int x1, .int x2, .int x3] [.int x2] μ
    exact g_reti (by decide +kernel) rfl h
  · replace h := h.1 hc
    show G Γ m_FB_valueOfSet (d + 1) (0, 0) Q 15 [.ref r0, .int x1, .int x2, .int x3] [] μ
    refine run_ok (pc' := 21) [(.iload_n 1, 0, 0, 0), (.iload_n 3, 0, 0, 0), (.ishr, 0, 0, 0), (.iconst 1, 0, 0, 0), (.iand, 0, 0, 0), (.iconst 1, 0, 0, 0)] _ _ _ _ (by decide +kernel) ?_
    show G Γ m_FB_valueOfSet (d + 1) (0, 0) Q 21 [.ref r0, .int x1, .int x2, .int x3] [.int (w 1), .int ((x1 >>> (x3 &&& 31)) &&& (w 1))] μ
    refine g_icmp_ne (pc' := 33) (off := 12) (by decide) (by decide +kernel) (fun hc => ?_) (fun hc => ?_)
    · replace h := h.2 hc
      show G Γ m_FB_valueOfSet (d + 1) (0, 0) Q 33 [.ref r0, .int x1, .int x2, .int x3] [] μ
      refine run_ok (pc' := 4) [(.iinc 3 1, 0, 0, 0), (.goto (-32), 0, 0, 0)] _ _ _ _ (by decide +kernel) ?_
      show G Γ m_FB_valueOfSet (d + 1) (0, 0) Q 4 [.ref r0, .int x1, .int x2, .int (x3 + w 1)] [] μ
      exact h
    · replace h := h.1 hc
      show G Γ m_FB_valueOfSet (d + 1) (0, 0) Q 24 [.ref r0, .int x1, .int x2, .int x3] [] μ
      obtain ⟨ib1, h⟩ := h
      refine run_ok (pc' := 4) [(.iload_n 2, 0, 0, 0), (.aload_n 0, 0, 0, 0), (.getfield 97, 10, 18, 2), (.iload_n 3, 0, 0, 0), (.iaload, 0, 0, 0), (.iadd, 0, 0, 0), (.istore_n 2, 0, 0, 0), (.iinc 3 1, 0, 0, 0), (.goto (-32), 0, 0, 0)] _ _ _ _ (by decide +kernel) ?_
      show _ ∧ (∃ _, _ ∧ (_ ∧ (_)))
      refine ⟨o_r0_10, r0_18, e_r0_18, ib1, ?_⟩
      show G Γ m_FB_valueOfSet (d + 1) (0, 0) Q 4 [.ref r0, .int x1, .int (x2 + (xI μ r0_18 x3.toNatClampNeg)), .int (x3 + w 1)] [] μ
      exact h
/-! FrostBox goesTogether(I)Z -/
set_option maxRecDepth 100000 in
theorem lk_10_358 : LkV 10 358 m_Ho_kindsWith 1 := ⟨lc_Ho_kindsWith, lwG_in (List.mem_of_getElem? (i := 918) rfl) rfl, lwG_in (List.mem_of_getElem? (i := 919) rfl) rfl, lwG_in (List.mem_of_getElem? (i := 920) rfl) rfl⟩
set_option maxRecDepth 100000 in
theorem B_FB_goesTogether_0 {Γ : XG} {d : Nat} {Q : Option Value → XM → Prop} {r0 : Nat} {x1 : Int32} {μ : XM}  (h : G Γ m_FB_goesTogether (d + 1) (0, 0) Q 4 [.ref r0, .int x1, .int (w 0), .int (w 0)] [] μ) : G Γ m_FB_goesTogether (d + 1) (0, 0) Q 0 [.ref r0, .int x1] [] μ := by
  refine run_ok (pc' := 4) [(.iconst 0, 0, 0, 0), (.istore_n 2, 0, 0, 0), (.iconst 0, 0, 0, 0), (.istore_n 3, 0, 0, 0)] _ _ _ _ (by decide +kernel) ?_
  show G Γ m_FB_goesTogether (d + 1) (0, 0) Q 4 [.ref r0, .int x1, .int (w 0), .int (w 0)] [] μ
  exact h
set_option maxRecDepth 100000 in
theorem B_FB_goesTogether_4 {Γ : XG} {d : Nat} {Q : Option Value → XM → Prop} {r0 r0_9 r0_9_0 : Nat} {x1 x2 x3 : Int32} {μ : XM} (o_r0_10 : ob μ r0 10) (e_r0_9 : xR μ r0 9 = some r0_9) (o_r0_9_6 : ob μ r0_9 6) (e_r0_9_0 : xR μ r0_9 0 = some r0_9_0) (h : ((x3 < xI μ r0_9 4 → (((x1 >>> (x3 &&& 31)) &&& (w 1) = w 1 → Call Γ m_Pi_indexOf d [.ref r0_9, .int x3] μ (KI (fun v1 μ1 => inb μ1 0 r0_9_0 v1 ∧ G Γ m_FB_goesTogether (d + 1) (0, 0) Q 4 [.ref r0, .int x1, .int (x2 ||| ((w 1) <<< ((xI μ1 r0_9_0 v1.toNatClampNeg) &&& 31))), .int (x3 + w 1)] [] μ1))) ∧ (¬ (x1 >>> (x3 &&& 31)) &&& (w 1) = w 1 → G Γ m_FB_goesTogether (d + 1) (0, 0) Q 4 [.ref r0, .int x1, .int x2, .int (x3 + w 1)] [] μ))) ∧ (¬ x3 < xI μ r0_9 4 → G Γ m_FB_goesTogether (d + 1) (0, 0) Q 53 [.ref r0, jk, .int x2, .int (w 0)] [] μ))) : G Γ m_FB_goesTogether (d + 1) (0, 0) Q 4 [.ref r0, .int x1, .int x2, .int x3] [] μ := by
  refine run_ok (pc' := 12) [(.iload_n 3, 0, 0, 0), (.aload_n 0, 0, 0, 0), (.getfield 48, 10, 9, 2), (.getfield 223, 6, 4, 0)] _ _ _ _ (by decide +kernel) ?_
  show _ ∧ (∃ _, _ ∧ (_ ∧ (_)))
  refine ⟨o_r0_10, r0_9, e_r0_9, o_r0_9_6, ?_⟩
  show G Γ m_FB_goesTogether (d + 1) (0, 0) Q 12 [.ref r0, .int x1, .int x2, .int x3] [.int (xI μ r0_9 4), .int x3] μ
  refine g_icmp_ge (pc' := 51) (off := 39) (by decide) (by decide +kernel) (fun hc => ?_) (fun hc => ?_)
  · replace h := h.2 hc
    show G Γ m_FB_goesTogether (d + 1) (0, 0) Q 51 [.ref r0, .int x1, .int x2, .int x3] [] μ
    refine run_ok (pc' := 53) [(.iconst 0, 0, 0, 0), (.istore_n 3, 0, 0, 0)] _ _ _ _ (by decide +kernel) ?_
    show G Γ m_FB_goesTogether (d + 1) (0, 0) Q 53 [.ref r0, .int x1, .int x2, .int (w 0)] [] μ
    exact g_wk (ls' := [.ref r0, jk, .int x2, .int (w 0)]) ⟨Or.inr rfl, Or.inl rfl, Or.inr rfl, Or.inr rfl, trivial⟩ h
  · replace h := h.1 hc
    show G Γ m_FB_goesTogether (d + 1) (0, 0) Q 15 [.ref r0, .int x1, .int x2, .int x3] [] μ
    refine run_ok (pc' := 21) [(.iload_n 1, 0, 0, 0), (.iload_n 3, 0, 0, 0), (.ishr, 0, 0, 0), (.iconst 1, 0, 0, 0), (.iand, 0, 0, 0), (.iconst 1, 0, 0, 0)] _ _ _ _ (by decide +kernel) ?_
    show G Γ m_FB_goesTogether (d + 1) (0, 0) Q 21 [.ref r0, .int x1, .int x2, .int x3] [.int (w 1), .int ((x1 >>> (x3 &&& 31)) &&& (w 1))] μ
    refine g_icmp_ne (pc' := 45) (off := 24) (by decide) (by decide +kernel) (fun hc => ?_) (fun hc => ?_)
    · replace h := h.2 hc
      show G Γ m_FB_goesTogether (d + 1) (0, 0) Q 45 [.ref r0, .int x1, .int x2, .int x3] [] μ
      refine run_ok (pc' := 4) [(.iinc 3 1, 0, 0, 0), (.goto (-44), 0, 0, 0)] _ _ _ _ (by decide +kernel) ?_
      show G Γ m_FB_goesTogether (d + 1) (0, 0) Q 4 [.ref r0, .int x1, .int x2, .int (x3 + w 1)] [] μ
      exact h
    · replace h := h.1 hc
      show G Γ m_FB_goesTogether (d + 1) (0, 0) Q 24 [.ref r0, .int x1, .int x2, .int x3] [] μ
      refine run_ok (pc' := 38) [(.iload_n 2, 0, 0, 0), (.iconst 1, 0, 0, 0), (.aload_n 0, 0, 0, 0), (.getfield 48, 10, 9, 2), (.getfield 185, 6, 0, 2), (.aload_n 0, 0, 0, 0), (.getfield 48, 10, 9, 2), (.iload_n 3, 0, 0, 0)] _ _ _ _ (by decide +kernel) ?_
      show _ ∧ (∃ _, _ ∧ (_ ∧ (∃ _, _ ∧ (_ ∧ (∃ _, _ ∧ (_))))))
      refine ⟨o_r0_10, r0_9, e_r0_9, o_r0_9_6, r0_9_0, e_r0_9_0, o_r0_10, r0_9, e_r0_9, ?_⟩
      show G Γ m_FB_goesTogether (d + 1) (0, 0) Q 38 [.ref r0, .int x1, .int x2, .int x3] [.int x3, .ref r0_9, .ref r0_9_0, .int (w 1), .int x2] μ
      refine g_invV (M' := m_Pi_indexOf) (b1 := 0) (b2 := 0) (As := [.int x3]) (a := r0_9) (st := [.ref r0_9_0, .int (w 1), .int x2]) lk_10_182 (by decide +kernel) rfl (dk_Pi_indexOf d) (Nat.le_of_ble_eq_true rfl) (Or.inl ⟨6, o_r0_9_6, rfl⟩) h ?_
      rintro _ μ1 ⟨v1, rfl, h⟩ hn1
      show G Γ m_FB_goesTogether (d + 1) (0, 0) Q 41 [.ref r0, .int x1, .int x2, .int x3] [.int v1, .ref r0_9_0, .int (w 1), .int x2] μ1
      obtain ⟨ib2, h⟩ := h
      refine run_ok (pc' := 4) [(.iaload, 0, 0, 0), (.ishl, 0, 0, 0), (.ior, 0, 0, 0), (.istore_n 2, 0, 0, 0), (.iinc 3 1, 0, 0, 0), (.goto (-44), 0, 0, 0)] _ _ _ _ (by decide +kernel) ?_
      show _ ∧ (_)
      refine ⟨ib2, ?_⟩
      show G Γ m_FB_goesTogether (d + 1) (0, 0) Q 4 [.ref r0, .int x1, .int (x2 ||| ((w 1) <<< ((xI μ1 r0_9_0 v1.toNatClampNeg) &&& 31))), .int (x3 + w 1)] [] μ1
      exact h
set_option maxRecDepth 100000 in
theorem B_FB_goesTogether_53 {Γ : XG} {d : Nat} {Q : Option Value → XM → Prop} {r0 r0_1 : Nat} {x2 x3 : Int32} {μ : XM} (o_r0_10 : ob μ r0 10) (e_r0_1 : xR μ r0 1 = some r0_1) (o_r0_1_1 : ob μ r0_1 1) (h : ((x3 < xI μ r0_1 4 → (((x2 >>> (x3 &&& 31)) &&& (w 1) = w 1 → Call Γ m_Ho_kindsWith d [.ref r0_1, .int x3] μ (KI (fun v1 μ1 => ((x2 &&& (v1 ^^^ (w (-1))) = w 0 → G Γ m_FB_goesTogether (d + 1) (0, 0) Q 53 [.ref r0, jk, .int x2, .int (x3 + w 1)] [] μ1) ∧ (¬ x2 &&& (v1 ^^^ (w (-1))) = w 0 → Q (some (.int (w 0))) μ1))))) ∧ (¬ (x2 >>> (x3 &&& 31)) &&& (w 1) = w 1 → G Γ m_FB_goesTogether (d + 1) (0, 0) Q 53 [.ref r0, jk, .int x2, .int (x3 + w 1)] [] μ))) ∧ (¬ x3 < xI μ r0_1 4 → Q (some (.int (w 1))) μ))) : G Γ m_FB_goesTogether (d + 1) (0, 0) Q 53 [.ref r0, jk, .int x2, .int x3] [] μ := by
  refine run_ok (pc' := 61) [(.iload_n 3, 0, 0, 0), (.aload_n 0, 0, 0, 0), (.getfield 19, 10, 1, 2), (.getfield 161, 1, 4, 0)] _ _ _ _ (by decide +kernel) ?_
  show _ ∧ (∃ _, _ ∧ (_ ∧ (_)))
  refine ⟨o_r0_10, r0_1, e_r0_1, o_r0_1_1, ?_⟩
  show G Γ m_FB_goesTogether (d + 1) (0, 0) Q 61 [.ref r0, jk, .int x2, .int x3] [.int (xI μ r0_1 4), .int x3] μ
  refine g_icmp_ge (pc' := 96) (off := 35) (by decide) (by decide +kernel) (fun hc => ?_) (fun hc => ?_)
  · replace h := h.2 hc
    show G Γ m_FB_goesTogether (d + 1) (0, 0) Q 96 [.ref r0, jk, .int x2, .int x3] [] μ
    refine run_ok (pc' := 97) [(.iconst 1, 0, 0, 0)] _ _ _ _ (by decide +kernel) ?_
    show G Γ m_FB_goesTogether (d + 1) (0, 0) Q 97 [.ref r0, jk, .int x2, .int x3] [.int (w 1)] μ
    exact g_retz (by decide +kernel) rfl (Or.inr rfl) h
  · replace h := h.1 hc
    show G Γ m_FB_goesTogether (d + 1) (0, 0) Q 64 [.ref r0, jk, .int x2, .int x3] [] μ
    refine run_ok (pc' := 70) [(.iload_n 2, 0, 0, 0), (.iload_n 3, 0, 0, 0), (.ishr, 0, 0, 0), (.iconst 1, 0, 0, 0), (.iand, 0, 0, 0), (.iconst 1, 0, 0, 0)] _ _ _ _ (by decide +kernel) ?_
    show G Γ m_FB_goesTogether (d + 1) (0, 0) Q 70 [.ref r0, jk, .int x2, .int x3] [.int (w 1), .int ((x2 >>> (x3 &&& 31)) &&& (w 1))] μ
    refine g_icmp_ne (pc' := 90) (off := 20) (by decide) (by decide +kernel) (fun hc => ?_) (fun hc => ?_)
    · replace h := h.2 hc
      show G Γ m_FB_goesTogether (d + 1) (0, 0) Q 90 [.ref r0, jk, .int x2, .int x3] [] μ
      refine run_ok (pc' := 53) [(.iinc 3 1, 0, 0, 0), (.goto (-40), 0, 0, 0)] _ _ _ _ (by decide +kernel) ?_
      show G Γ m_FB_goesTogether (d + 1) (0, 0) Q 53 [.ref r0, jk, .int x2, .int (x3 + w 1)] [] μ
      exact h
    · replace h := h.1 hc
      show G Γ m_FB_goesTogether (d + 1) (0, 0) Q 73 [.ref r0, jk, .int x2, .int x3] [] μ
      refine run_ok (pc' := 79) [(.iload_n 2, 0, 0, 0), (.aload_n 0, 0, 0, 0), (.getfield 19, 10, 1, 2), (.iload_n 3, 0, 0, 0)] _ _ _ _ (by decide +kernel) ?_
      show _ ∧ (∃ _, _ ∧ (_))
      refine ⟨o_r0_10, r0_1, e_r0_1, ?_⟩
      show G Γ m_FB_goesTogether (d + 1) (0, 0) Q 79 [.ref r0, jk, .int x2, .int x3] [.int x3, .ref r0_1, .int x2] μ
      refine g_invV (M' := m_Ho_kindsWith) (b1 := 0) (b2 := 0) (As := [.int x3]) (a := r0_1) (st := [.int x2]) lk_10_358 (by decide +kernel) rfl (dk_Ho_kindsWith d) (Nat.le_of_ble_eq_true rfl) (Or.inl ⟨1, o_r0_1_1, rfl⟩) h ?_
      rintro _ μ1 ⟨v1, rfl, h⟩ hn1
      show G Γ m_FB_goesTogether (d + 1) (0, 0) Q 82 [.ref r0, jk, .int x2, .int x3] [.int v1, .int x2] μ1
      refine run_ok (pc' := 85) [(.iconst (-1), 0, 0, 0), (.ixor, 0, 0, 0), (.iand, 0, 0, 0)] _ _ _ _ (by decide +kernel) ?_
      show G Γ m_FB_goesTogether (d + 1) (0, 0) Q 85 [.ref r0, jk, .int x2, .int x3] [.int (x2 &&& (v1 ^^^ (w (-1))))] μ1
      refine g_ifz_eq (pc' := 90) (off := 5) (by decide) (by decide +kernel) (fun hc => ?_) (fun hc => ?_)
      · replace h := h.1 hc
        show G Γ m_FB_goesTogether (d + 1) (0, 0) Q 90 [.ref r0, jk, .int x2, .int x3] [] μ1
        refine run_ok (pc' := 53) [(.iinc 3 1, 0, 0, 0), (.goto (-40), 0, 0, 0)] _ _ _ _ (by decide +kernel) ?_
        show G Γ m_FB_goesTogether (d + 1) (0, 0) Q 53 [.ref r0, jk, .int x2, .int (x3 + w 1)] [] μ1
        exact h
      · replace h := h.2 hc
        show G Γ m_FB_goesTogether (d + 1) (0, 0) Q 88 [.ref r0, jk, .int x2, .int x3] [] μ1
        refine run_ok (pc' := 89) [(.iconst 0, 0, 0, 0)] _ _ _ _ (by decide +kernel) ?_
        show G Γ m_FB_goesTogether (d + 1) (0, 0) Q 89 [.ref r0, jk, .int x2, .int x3] [.int (w 0)] μ1
        exact g_retz (by decide +kernel) rfl (Or.inl rfl) h
/-! FrostBox goes(I)I -/
set_option maxRecDepth 100000 in
theorem B_FB_goes_0 {Γ : XG} {d : Nat} {Q : Option Value → XM → Prop} {r0 : Nat} {x1 : Int32} {μ : XM} (o_r0_10 : ob μ r0 10) (h : Call Γ m_FB_isKind d [.ref r0, .int x1] μ (KI (fun v1 μ1 => ((v1 = w 0 → Q (some (.int (w (-1)))) μ1) ∧ (¬ v1 = w 0 → ∃ a2, xR μ1 r0 1 = some a2 ∧ ob μ1 a2 1 ∧ Call Γ m_Ho_kindsWith d [.ref a2, .int x1] μ1 (KI (fun v3 μ3 => Q (some (.int v3)) μ3))))))) : G Γ m_FB_goes (d + 1) (0, 0) Q 0 [.ref r0, .int x1] [] μ := by
  refine run_ok (pc' := 2) [(.aload_n 0, 0, 0, 0), (.iload_n 1, 0, 0, 0)] _ _ _ _ (by decide +kernel) ?_
  show G Γ m_FB_goes (d + 1) (0, 0) Q 2 [.ref r0, .int x1] [.int x1, .ref r0] μ
  refine g_invV (M' := m_FB_isKind) (b1 := 0) (b2 := 0) (As := [.int x1]) (a := r0) (st := []) lk_10_169 (by decide +kernel) rfl (dk_FB_isKind d) (Nat.le_of_ble_eq_true rfl) (Or.inl ⟨10, o_r0_10, rfl⟩) h ?_
  rintro _ μ1 ⟨v1, rfl, h⟩ hn1
  show G Γ m_FB_goes (d + 1) (0, 0) Q 5 [.ref r0, .int x1] [.int v1] μ1
  refine g_ifz_eq (pc' := 19) (off := 14) (by decide) (by decide +kernel) (fun hc => ?_) (fun hc => ?_)
  · replace h := h.1 hc
    show G Γ m_FB_goes (d + 1) (0, 0) Q 19 [.ref r0, .int x1] [] μ1
    refine run_ok (pc' := 20) [(.iconst (-1), 0, 0, 0)] _ _ _ _ (by decide +kernel) ?_
    show G Γ m_FB_goes (d + 1) (0, 0) Q 20 [.ref r0, .int x1] [.int (w (-1))] μ1
    exact g_reti (by decide +kernel) rfl h
  · replace h := h.2 hc
    show G Γ m_FB_goes (d + 1) (0, 0) Q 8 [.ref r0, .int x1] [] μ1
    obtain ⟨a2, ea2, h⟩ := h
    refine run_ok (pc' := 13) [(.aload_n 0, 0, 0, 0), (.getfield 19, 10, 1, 2), (.iload_n 1, 0, 0, 0)] _ _ _ _ (by decide +kernel) ?_
    show _ ∧ (∃ _, _ ∧ (_))
    refine ⟨((o_r0_10).mono hn1), a2, ea2, ?_⟩
    show G Γ m_FB_goes (d + 1) (0, 0) Q 13 [.ref r0, .int x1] [.int x1, .ref a2] μ1
    obtain ⟨o_a2_1, h⟩ := h
    refine g_invV (M' := m_Ho_kindsWith) (b1 := 0) (b2 := 0) (As := [.int x1]) (a := a2) (st := []) lk_10_358 (by decide +kernel) rfl (dk_Ho_kindsWith d) (Nat.le_of_ble_eq_true rfl) (Or.inl ⟨1, o_a2_1, rfl⟩) h ?_
    rintro _ μ3 ⟨v3, rfl, h⟩ hn3
    show G Γ m_FB_goes (d + 1) (0, 0) Q 16 [.ref r0, .int x1] [.int v3] μ3
    refine run_ok (pc' := 20) [(.goto 4, 0, 0, 0)] _ _ _ _ (by decide +kernel) ?_
    show G Γ m_FB_goes (d + 1) (0, 0) Q 20 [.ref r0, .int x1] [.int v3] μ3
    exact g_reti (by decide +kernel) rfl h
/-! FrostBox eat(I)I -/
set_option maxRecDepth 100000 in
theorem lk_10_368 : LkV 10 368 m_FB_bestOrder 0 := ⟨lc_FB_bestOrder, lwG_in (List.mem_of_getElem? (i := 956) rfl) rfl, lwG_in (List.mem_of_getElem? (i := 958) rfl) rfl, lwG_in (List.mem_of_getElem? (i := 43) rfl) rfl⟩
set_option maxRecDepth 100000 in
theorem lk_10_365 : LkV 10 365 m_FB_fillBest 0 := ⟨lc_FB_fillBest, lwG_in (List.mem_of_getElem? (i := 942) rfl) rfl, lwG_in (List.mem_of_getElem? (i := 944) rfl) rfl, lwG_in (List.mem_of_getElem? (i := 41) rfl) rfl⟩
set_option maxRecDepth 100000 in
theorem lk_10_361 : LkV 10 361 m_FB_eatenInTurn 1 := ⟨lc_FB_eatenInTurn, lwG_in (List.mem_of_getElem? (i := 934) rfl) rfl, lwG_in (List.mem_of_getElem? (i := 936) rfl) rfl, lwG_in (List.mem_of_getElem? (i := 39) rfl) rfl⟩
set_option maxRecDepth 100000 in
theorem B_FB_eat_0 {Γ : XG} {d : Nat} {Q : Option Value → XM → Prop} {r0 : Nat} {x1 : Int32} {μ : XM} (o_r0_10 : ob μ r0 10) (h : Call Γ m_FB_hasHouse d [.ref r0] μ (KI (fun v1 μ1 => ((v1 = w 0 → Q (some (.int (w (-1)))) μ1) ∧ (¬ v1 = w 0 → ((x1 < w 0 → Q (some (.int (w (-1)))) μ1) ∧ (¬ x1 < w 0 → ((w 3 < x1 → Q (some (.int (w (-1)))) μ1) ∧ (¬ w 3 < x1 → ((x1 < w 2 → Call Γ m_FB_fillBest d [.ref r0] μ1 (KV (fun μ2 => ((x1 = w 0 → Call Γ m_FB_bestOrder d [.ref r0] μ2 (KI (fun v6 μ6 => Q (some (.int v6)) μ6))) ∧ (¬ x1 = w 0 → ∃ a3, xR μ2 r0 16 = some a3 ∧ ∃ a4, xR μ2 r0 9 = some a4 ∧ ob μ2 a4 6 ∧ inb μ2 0 a3 (((w 1) <<< ((xI μ2 a4 4) &&& 31)) - (w 1)) ∧ Q (some (.int (xI μ2 a3 (((w 1) <<< ((xI μ2 a4 4) &&& 31)) - (w 1)).toNatClampNeg))) μ2))))) ∧ (¬ x1 < w 2 → ((x1 = w 3 → Call Γ m_FB_eatenInTurn d [.ref r0, .int (w 1)] μ1 (KI (fun v8 μ8 => Q (some (.int v8)) μ8))) ∧ (¬ x1 = w 3 → Call Γ m_FB_eatenInTurn d [.ref r0, .int (w 0)] μ1 (KI (fun v7 μ7 => Q (some (.int v7)) μ7))))))))))))))) : G Γ m_FB_eat (d + 1) (0, 0) Q 0 [.ref r0, .int x1] [] μ := by
  refine run_ok (pc' := 1) [(.aload_n 0, 0, 0, 0)] _ _ _ _ (by decide +kernel) ?_
  show G Γ m_FB_eat (d + 1) (0, 0) Q 1 [.ref r0, .int x1] [.ref r0] μ
  refine g_invV (M' := m_FB_hasHouse) (b1 := 0) (b2 := 0) (As := []) (a := r0) (st := []) lk_10_162 (by decide +kernel) rfl (dk_FB_hasHouse d) (Nat.le_of_ble_eq_true rfl) (Or.inl ⟨10, o_r0_10, rfl⟩) h ?_
  rintro _ μ1 ⟨v1, rfl, h⟩ hn1
  show G Γ m_FB_eat (d + 1) (0, 0) Q 4 [.ref r0, .int x1] [.int v1] μ1
  refine g_ifz_eq (pc' := 16) (off := 12) (by decide) (by decide +kernel) (fun hc => ?_) (fun hc => ?_)
  · replace h := h.1 hc
    show G Γ m_FB_eat (d + 1) (0, 0) Q 16 [.ref r0, .int x1] [] μ1
    refine run_ok (pc' := 17) [(.iconst (-1), 0, 0, 0)] _ _ _ _ (by decide +kernel) ?_
    show G Γ m_FB_eat (d + 1) (0, 0) Q 17 [.ref r0, .int x1] [.int (w (-1))] μ1
    exact g_reti (by decide +kernel) rfl h
  · replace h := h.2 hc
    show G Γ m_FB_eat (d + 1) (0, 0) Q 7 [.ref r0, .int x1] [] μ1
    refine run_ok (pc' := 8) [(.iload_n 1, 0, 0, 0)] _ _ _ _ (by decide +kernel) ?_
    show G Γ m_FB_eat (d + 1) (0, 0) Q 8 [.ref r0, .int x1] [.int x1] μ1
    refine g_ifz_lt (pc' := 16) (off := 8) (by decide) (by decide +kernel) (fun hc => ?_) (fun hc => ?_)
    · replace h := h.1 hc
      show G Γ m_FB_eat (d + 1) (0, 0) Q 16 [.ref r0, .int x1] [] μ1
      refine run_ok (pc' := 17) [(.iconst (-1), 0, 0, 0)] _ _ _ _ (by decide +kernel) ?_
      show G Γ m_FB_eat (d + 1) (0, 0) Q 17 [.ref r0, .int x1] [.int (w (-1))] μ1
      exact g_reti (by decide +kernel) rfl h
    · replace h := h.2 hc
      show G Γ m_FB_eat (d + 1) (0, 0) Q 11 [.ref r0, .int x1] [] μ1
      refine run_ok (pc' := 13) [(.iload_n 1, 0, 0, 0), (.iconst 3, 0, 0, 0)] _ _ _ _ (by decide +kernel) ?_
      show G Γ m_FB_eat (d + 1) (0, 0) Q 13 [.ref r0, .int x1] [.int (w 3), .int x1] μ1
      refine g_icmp_le (pc' := 18) (off := 5) (by decide) (by decide +kernel) (fun hc => ?_) (fun hc => ?_)
      · replace h := h.2 hc
        show G Γ m_FB_eat (d + 1) (0, 0) Q 18 [.ref r0, .int x1] [] μ1
        refine run_ok (pc' := 20) [(.iload_n 1, 0, 0, 0), (.iconst 2, 0, 0, 0)] _ _ _ _ (by decide +kernel) ?_
        show G Γ m_FB_eat (d + 1) (0, 0) Q 20 [.ref r0, .int x1] [.int (w 2), .int x1] μ1
        refine g_icmp_lt (pc' := 38) (off := 18) (by decide) (by decide +kernel) (fun hc => ?_) (fun hc => ?_)
        · replace h := h.1 hc
          show G Γ m_FB_eat (d + 1) (0, 0) Q 38 [.ref r0, .int x1] [] μ1
          refine run_ok (pc' := 39) [(.aload_n 0, 0, 0, 0)] _ _ _ _ (by decide +kernel) ?_
          show G Γ m_FB_eat (d + 1) (0, 0) Q 39 [.ref r0, .int x1] [.ref r0] μ1
          refine g_invV (M' := m_FB_fillBest) (b1 := 0) (b2 := 0) (As := []) (a := r0) (st := []) lk_10_365 (by decide +kernel) rfl (dk_FB_fillBest d) (Nat.le_of_ble_eq_true rfl) (Or.inl ⟨10, ((o_r0_10).mono hn1), rfl⟩) h ?_
          rintro _ μ2 ⟨rfl, h⟩ hn2
          show G Γ m_FB_eat (d + 1) (0, 0) Q 42 [.ref r0, .int x1] [] μ2
          refine run_ok (pc' := 43) [(.iload_n 1, 0, 0, 0)] _ _ _ _ (by decide +kernel) ?_
          show G Γ m_FB_eat (d + 1) (0, 0) Q 43 [.ref r0, .int x1] [.int x1] μ2
          refine g_ifz_ne (pc' := 53) (off := 10) (by decide) (by decide +kernel) (fun hc => ?_) (fun hc => ?_)
          · replace h := h.2 hc
            show G Γ m_FB_eat (d + 1) (0, 0) Q 53 [.ref r0, .int x1] [] μ2
            obtain ⟨a3, ea3, h⟩ := h
            obtain ⟨a4, ea4, h⟩ := h
            obtain ⟨o_a4_6, h⟩ := h
            obtain ⟨ib5, h⟩ := h
            refine run_ok (pc' := 69) [(.aload_n 0, 0, 0, 0), (.getfield 90, 10, 16, 2), (.iconst 1, 0, 0, 0), (.aload_n 0, 0, 0, 0), (.getfield 48, 10, 9, 2), (.getfield 223, 6, 4, 0), (.ishl, 0, 0, 0), (.iconst 1, 0, 0, 0), (.isub, 0, 0, 0), (.iaload, 0, 0, 0)] _ _ _ _ (by decide +kernel) ?_
            show _ ∧ (∃ _, _ ∧ (_ ∧ (∃ _, _ ∧ (_ ∧ (_ ∧ (_))))))
            refine ⟨(((o_r0_10).mono hn1).mono hn2), a3, ea3, (((o_r0_10).mono hn1).mono hn2), a4, ea4, o_a4_6, ib5, ?_⟩
            show G Γ m_FB_eat (d + 1) (0, 0) Q 69 [.ref r0, .int x1] [.int (xI μ2 a3 (((w 1) <<< ((xI μ2 a4 4) &&& 31)) - (w 1)).toNatClampNeg)] μ2
            exact g_reti (by decide +kernel) rfl h
          · replace h := h.1 hc
            show G Γ m_FB_eat (d + 1) (0, 0) Q 46 [.ref r0, .int x1] [] μ2
            refine run_ok (pc' := 47) [(.aload_n 0, 0, 0, 0)] _ _ _ _ (by decide +kernel) ?_
            show G Γ m_FB_eat (d + 1) (0, 0) Q 47 [.ref r0, .int x1] [.ref r0] μ2
            refine g_invV (M' := m_FB_bestOrder) (b1 := 0) (b2 := 0) (As := []) (a := r0) (st := []) lk_10_368 (by decide +kernel) rfl (dk_FB_bestOrder d) (Nat.le_of_ble_eq_true rfl) (Or.inl ⟨10, (((o_r0_10).mono hn1).mono hn2), rfl⟩) h ?_
            rintro _ μ6 ⟨v6, rfl, h⟩ hn6
            show G Γ m_FB_eat (d + 1) (0, 0) Q 50 [.ref r0, .int x1] [.int v6] μ6
            refine run_ok (pc' := 69) [(.goto 19, 0, 0, 0)] _ _ _ _ (by decide +kernel) ?_
            show G Γ m_FB_eat (d + 1) (0, 0) Q 69 [.ref r0, .int x1] [.int v6] μ6
            exact g_reti (by decide +kernel) rfl h
        · replace h := h.2 hc
          show G Γ m_FB_eat (d + 1) (0, 0) Q 23 [.ref r0, .int x1] [] μ1
          refine run_ok (pc' := 26) [(.aload_n 0, 0, 0, 0), (.iload_n 1, 0, 0, 0), (.iconst 3, 0, 0, 0)] _ _ _ _ (by decide +kernel) ?_
          show G Γ m_FB_eat (d + 1) (0, 0) Q 26 [.ref r0, .int x1] [.int (w 3), .int x1, .ref r0] μ1
          refine g_icmp_ne (pc' := 33) (off := 7) (by decide) (by decide +kernel) (fun hc => ?_) (fun hc => ?_)
          · replace h := h.2 hc
            show G Γ m_FB_eat (d + 1) (0, 0) Q 33 [.ref r0, .int x1] [.ref r0] μ1
            refine run_ok (pc' := 34) [(.iconst 0, 0, 0, 0)] _ _ _ _ (by decide +kernel) ?_
            show G Γ m_FB_eat (d + 1) (0, 0) Q 34 [.ref r0, .int x1] [.int (w 0), .ref r0] μ1
            refine g_invV (M' := m_FB_eatenInTurn) (b1 := 0) (b2 := 0) (As := [.int (w 0)]) (a := r0) (st := []) lk_10_361 (by decide +kernel) rfl (dk_FB_eatenInTurn d) (Nat.le_of_ble_eq_true rfl) (Or.inl ⟨10, ((o_r0_10).mono hn1), rfl⟩) h ?_
            rintro _ μ7 ⟨v7, rfl, h⟩ hn7
            show G Γ m_FB_eat (d + 1) (0, 0) Q 37 [.ref r0, .int x1] [.int v7] μ7
            exact g_reti (by decide +kernel) rfl h
          · replace h := h.1 hc
            show G Γ m_FB_eat (d + 1) (0, 0) Q 29 [.ref r0, .int x1] [.ref r0] μ1
            refine run_ok (pc' := 34) [(.iconst 1, 0, 0, 0), (.goto 4, 0, 0, 0)] _ _ _ _ (by decide +kernel) ?_
            show G Γ m_FB_eat (d + 1) (0, 0) Q 34 [.ref r0, .int x1] [.int (w 1), .ref r0] μ1
            refine g_invV (M' := m_FB_eatenInTurn) (b1 := 0) (b2 := 0) (As := [.int (w 1)]) (a := r0) (st := []) lk_10_361 (by decide +kernel) rfl (dk_FB_eatenInTurn d) (Nat.le_of_ble_eq_true rfl) (Or.inl ⟨10, ((o_r0_10).mono hn1), rfl⟩) h ?_
            rintro _ μ8 ⟨v8, rfl, h⟩ hn8
            show G Γ m_FB_eat (d + 1) (0, 0) Q 37 [.ref r0, .int x1] [.int v8] μ8
            exact g_reti (by decide +kernel) rfl h
      · replace h := h.1 hc
        show G Γ m_FB_eat (d + 1) (0, 0) Q 16 [.ref r0, .int x1] [] μ1
        refine run_ok (pc' := 17) [(.iconst (-1), 0, 0, 0)] _ _ _ _ (by decide +kernel) ?_
        show G Γ m_FB_eat (d + 1) (0, 0) Q 17 [.ref r0, .int x1] [.int (w (-1))] μ1
        exact g_reti (by decide +kernel) rfl h
/-! FrostBox fillBest()V -/
set_option maxRecDepth 100000 in
theorem lk_10_371 : LkV 10 371 m_FB_bestWithFirst 2 := ⟨lc_FB_bestWithFirst, lwG_in (List.mem_of_getElem? (i := 946) rfl) rfl, lwG_in (List.mem_of_getElem? (i := 948) rfl) rfl, lwG_in (List.mem_of_getElem? (i := 42) rfl) rfl⟩
set_option maxRecDepth 100000 in
theorem B_FB_fillBest_0 {Γ : XG} {d : Nat} {Q : Option Value → XM → Prop} {r0 r0_16 : Nat} {μ : XM} (o_r0_10 : ob μ r0 10) (e_r0_16 : xR μ r0 16 = some r0_16) (h : inS μ 0 r0_16 (w 0) ∧ ∀ μ2, μ2 = sI μ r0_16 (w 0).toNatClampNeg (w 0) → G Γ m_FB_fillBest (d + 1) (0, 0) Q 9 [.ref r0, .int (w 1)] [] μ2) : G Γ m_FB_fillBest (d + 1) (0, 0) Q 0 [.ref r0] [] μ := by
  obtain ⟨is1, h⟩ := h
  refine run_ok (pc' := 7) [(.aload_n 0, 0, 0, 0), (.getfield 90, 10, 16, 2), (.iconst 0, 0, 0, 0), (.iconst 0, 0, 0, 0), (.iastore, 0, 0, 0)] _ _ _ _ (by decide +kernel) ?_
  show _ ∧ (∃ _, _ ∧ (_ ∧ (_)))
  refine ⟨o_r0_10, r0_16, e_r0_16, is1, ?_⟩
  show G Γ m_FB_fillBest (d + 1) (0, 0) Q 7 [.ref r0] [] (sI μ r0_16 (w 0).toNatClampNeg (w 0))
  obtain ⟨μ2, em2⟩ : ∃ m : XM, m = sI μ r0_16 (w 0).toNatClampNeg (w 0) := ⟨_, rfl⟩
  replace h := h μ2 em2
  have hm2 : xN μ ≤ xN μ2 := by rw [em2]; exact Nat.le_refl _
  rw [← em2]
  refine run_ok (pc' := 9) [(.iconst 1, 0, 0, 0), (.istore_n 1, 0, 0, 0)] _ _ _ _ (by decide +kernel) ?_
  show G Γ m_FB_fillBest (d + 1) (0, 0) Q 9 [.ref r0, .int (w 1)] [] μ2
  exact h
set_option maxRecDepth 100000 in
theorem B_FB_fillBest_9 {Γ : XG} {d : Nat} {Q : Option Value → XM → Prop} {r0 r0_9 r0_16 : Nat} {x1 : Int32} {μ : XM} (o_r0_10 : ob μ r0 10) (e_r0_9 : xR μ r0 9 = some r0_9) (o_r0_9_6 : ob μ r0_9 6) (e_r0_16 : xR μ r0 16 = some r0_16) (h : ((x1 < (w 1) <<< ((xI μ r0_9 4) &&& 31) → inS μ 0 r0_16 x1 ∧ ∀ μ2, μ2 = sI μ r0_16 x1.toNatClampNeg (w (-1)) → G Γ m_FB_fillBest (d + 1) (0, 0) Q 31 [.ref r0, .int x1, .int (w 0)] [] μ2) ∧ (¬ x1 < (w 1) <<< ((xI μ r0_9 4) &&& 31) → Q none μ))) : G Γ m_FB_fillBest (d + 1) (0, 0) Q 9 [.ref r0, .int x1] [] μ := by
  refine run_ok (pc' := 19) [(.iload_n 1, 0, 0, 0), (.iconst 1, 0, 0, 0), (.aload_n 0, 0, 0, 0), (.getfield 48, 10, 9, 2), (.getfield 223, 6, 4, 0), (.ishl, 0, 0, 0)] _ _ _ _ (by decide +kernel) ?_
  show _ ∧ (∃ _, _ ∧ (_ ∧ (_)))
  refine ⟨o_r0_10, r0_9, e_r0_9, o_r0_9_6, ?_⟩
  show G Γ m_FB_fillBest (d + 1) (0, 0) Q 19 [.ref r0, .int x1] [.int ((w 1) <<< ((xI μ r0_9 4) &&& 31)), .int x1] μ
  refine g_icmp_ge (pc' := 110) (off := 91) (by decide) (by decide +kernel) (fun hc => ?_) (fun hc => ?_)
  · replace h := h.2 hc
    show G Γ m_FB_fillBest (d + 1) (0, 0) Q 110 [.ref r0, .int x1] [] μ
    exact g_retv (by decide +kernel) rfl h
  · replace h := h.1 hc
    show G Γ m_FB_fillBest (d + 1) (0, 0) Q 22 [.ref r0, .int x1] [] μ
    obtain ⟨is1, h⟩ := h
    refine run_ok (pc' := 29) [(.aload_n 0, 0, 0, 0), (.getfield 90, 10, 16, 2), (.iload_n 1, 0, 0, 0), (.iconst (-1), 0, 0, 0), (.iastore, 0, 0, 0)] _ _ _ _ (by decide +kernel) ?_
    show _ ∧ (∃ _, _ ∧ (_ ∧ (_)))
    refine ⟨o_r0_10, r0_16, e_r0_16, is1, ?_⟩
    show G Γ m_FB_fillBest (d + 1) (0, 0) Q 29 [.ref r0, .int x1] [] (sI μ r0_16 x1.toNatClampNeg (w (-1)))
    obtain ⟨μ2, em2⟩ : ∃ m : XM, m = sI μ r0_16 x1.toNatClampNeg (w (-1)) := ⟨_, rfl⟩
    replace h := h μ2 em2
    have hm2 : xN μ ≤ xN μ2 := by rw [em2]; exact Nat.le_refl _
    rw [← em2]
    refine run_ok (pc' := 31) [(.iconst 0, 0, 0, 0), (.istore_n 2, 0, 0, 0)] _ _ _ _ (by decide +kernel) ?_
    show G Γ m_FB_fillBest (d + 1) (0, 0) Q 31 [.ref r0, .int x1, .int (w 0)] [] μ2
    exact h
set_option maxRecDepth 100000 in
theorem B_FB_fillBest_31 {Γ : XG} {d : Nat} {Q : Option Value → XM → Prop} {r0 r0_9 : Nat} {x1 x2 : Int32} {μ : XM} (o_r0_10 : ob μ r0 10) (e_r0_9 : xR μ r0 9 = some r0_9) (o_r0_9_6 : ob μ r0_9 6) (h : ((x2 < xI μ r0_9 4 → Call Γ m_Pi_indexOf d [.ref r0_9, .int x2] μ (KI (fun v1 μ1 => (((x1 >>> (v1 &&& 31)) &&& (w 1) = w 1 → Call Γ m_FB_bestWithFirst d [.ref r0, .int x1, .int v1] μ1 (KI (fun v9 μ9 => ∃ a10, xR μ9 r0 16 = some a10 ∧ inb μ9 0 a10 x1 ∧ ((xI μ9 a10 x1.toNatClampNeg < v9 → inS μ9 0 a10 x1 ∧ ∀ μ13, μ13 = sI μ9 a10 x1.toNatClampNeg v9 → ∃ a14, xR μ13 r0 17 = some a14 ∧ inS μ13 0 a14 x1 ∧ ∀ μ16, μ16 = sI μ13 a14 x1.toNatClampNeg x2 → G Γ m_FB_fillBest (d + 1) (0, 0) Q 31 [.ref r0, .int x1, .int (x2 + w 1)] [] μ16) ∧ (¬ xI μ9 a10 x1.toNatClampNeg < v9 → G Γ m_FB_fillBest (d + 1) (0, 0) Q 31 [.ref r0, .int x1, .int (x2 + w 1)] [] μ9))))) ∧ (¬ (x1 >>> (v1 &&& 31)) &&& (w 1) = w 1 → ∃ a2, xR μ1 r0 16 = some a2 ∧ inb μ1 0 a2 x1 ∧ ((xI μ1 a2 x1.toNatClampNeg < w (-1) → inS μ1 0 a2 x1 ∧ ∀ μ5, μ5 = sI μ1 a2 x1.toNatClampNeg (w (-1)) → ∃ a6, xR μ5 r0 17 = some a6 ∧ inS μ5 0 a6 x1 ∧ ∀ μ8, μ8 = sI μ5 a6 x1.toNatClampNeg x2 → G Γ m_FB_fillBest (d + 1) (0, 0) Q 31 [.ref r0, .int x1, .int (x2 + w 1)] [] μ8) ∧ (¬ xI μ1 a2 x1.toNatClampNeg < w (-1) → G Γ m_FB_fillBest (d + 1) (0, 0) Q 31 [.ref r0, .int x1, .int (x2 + w 1)] [] μ1))))))) ∧ (¬ x2 < xI μ r0_9 4 → G Γ m_FB_fillBest (d + 1) (0, 0) Q 9 [.ref r0, .int (x1 + w 1)] [] μ))) : G Γ m_FB_fillBest (d + 1) (0, 0) Q 31 [.ref r0, .int x1, .int x2] [] μ := by
  refine run_ok (pc' := 39) [(.iload_n 2, 0, 0, 0), (.aload_n 0, 0, 0, 0), (.getfield 48, 10, 9, 2), (.getfield 223, 6, 4, 0)] _ _ _ _ (by decide +kernel) ?_
  show _ ∧ (∃ _, _ ∧ (_ ∧ (_)))
  refine ⟨o_r0_10, r0_9, e_r0_9, o_r0_9_6, ?_⟩
  show G Γ m_FB_fillBest (d + 1) (0, 0) Q 39 [.ref r0, .int x1, .int x2] [.int (xI μ r0_9 4), .int x2] μ
  refine g_icmp_ge (pc' := 104) (off := 65) (by decide) (by decide +kernel) (fun hc => ?_) (fun hc => ?_)
  · replace h := h.2 hc
    show G Γ m_FB_fillBest (d + 1) (0, 0) Q 104 [.ref r0, .int x1, .int x2] [] μ
    refine run_ok (pc' := 9) [(.iinc 1 1, 0, 0, 0), (.goto (-98), 0, 0, 0)] _ _ _ _ (by decide +kernel) ?_
    show G Γ m_FB_fillBest (d + 1) (0, 0) Q 9 [.ref r0, .int (x1 + w 1), .int x2] [] μ
    exact g_wk (ls' := [.ref r0, .int (x1 + w 1)]) ⟨Or.inr rfl, Or.inr rfl, trivial⟩ h
  · replace h := h.1 hc
    show G Γ m_FB_fillBest (d + 1) (0, 0) Q 42 [.ref r0, .int x1, .int x2] [] μ
    refine run_ok (pc' := 47) [(.aload_n 0, 0, 0, 0), (.getfield 48, 10, 9, 2), (.iload_n 2, 0, 0, 0)] _ _ _ _ (by decide +kernel) ?_
    show _ ∧ (∃ _, _ ∧ (_))
    refine ⟨o_r0_10, r0_9, e_r0_9, ?_⟩
    show G Γ m_FB_fillBest (d + 1) (0, 0) Q 47 [.ref r0, .int x1, .int x2] [.int x2, .ref r0_9] μ
    refine g_invV (M' := m_Pi_indexOf) (b1 := 0) (b2 := 0) (As := [.int x2]) (a := r0_9) (st := []) lk_10_182 (by decide +kernel) rfl (dk_Pi_indexOf d) (Nat.le_of_ble_eq_true rfl) (Or.inl ⟨6, o_r0_9_6, rfl⟩) h ?_
    rintro _ μ1 ⟨v1, rfl, h⟩ hn1
    show G Γ m_FB_fillBest (d + 1) (0, 0) Q 50 [.ref r0, .int x1, .int x2] [.int v1] μ1
    refine run_ok (pc' := 57) [(.istore_n 3, 0, 0, 0), (.iload_n 1, 0, 0, 0), (.iload_n 3, 0, 0, 0), (.ishr, 0, 0, 0), (.iconst 1, 0, 0, 0), (.iand, 0, 0, 0), (.iconst 1, 0, 0, 0)] _ _ _ _ (by decide +kernel) ?_
    show G Γ m_FB_fillBest (d + 1) (0, 0) Q 57 [.ref r0, .int x1, .int x2, .int v1] [.int (w 1), .int ((x1 >>> (v1 &&& 31)) &&& (w 1))] μ1
    refine g_icmp_ne (pc' := 69) (off := 12) (by decide) (by decide +kernel) (fun hc => ?_) (fun hc => ?_)
    · replace h := h.2 hc
      show G Γ m_FB_fillBest (d + 1) (0, 0) Q 69 [.ref r0, .int x1, .int x2, .int v1] [] μ1
      obtain ⟨a2, ea2, h⟩ := h
      obtain ⟨ib3, h⟩ := h
      refine run_ok (pc' := 80) [(.iconst (-1), 0, 0, 0), (.istore 4, 0, 0, 0), (.iload 4, 0, 0, 0), (.aload_n 0, 0, 0, 0), (.getfield 90, 10, 16, 2), (.iload_n 1, 0, 0, 0), (.iaload, 0, 0, 0)] _ _ _ _ (by decide +kernel) ?_
      show _ ∧ (∃ _, _ ∧ (_ ∧ (_)))
      refine ⟨((o_r0_10).mono hn1), a2, ea2, ib3, ?_⟩
      show G Γ m_FB_fillBest (d + 1) (0, 0) Q 80 [.ref r0, .int x1, .int x2, .int v1, .int (w (-1))] [.int (xI μ1 a2 x1.toNatClampNeg), .int (w (-1))] μ1
      refine g_icmp_le (pc' := 98) (off := 18) (by decide) (by decide +kernel) (fun hc => ?_) (fun hc => ?_)
      · replace h := h.2 hc
        show G Γ m_FB_fillBest (d + 1) (0, 0) Q 98 [.ref r0, .int x1, .int x2, .int v1, .int (w (-1))] [] μ1
        refine run_ok (pc' := 31) [(.iinc 2 1, 0, 0, 0), (.goto (-70), 0, 0, 0)] _ _ _ _ (by decide +kernel) ?_
        show G Γ m_FB_fillBest (d + 1) (0, 0) Q 31 [.ref r0, .int x1, .int (x2 + w 1), .int v1, .int (w (-1))] [] μ1
        exact g_wk (ls' := [.ref r0, .int x1, .int (x2 + w 1)]) ⟨Or.inr rfl, Or.inr rfl, Or.inr rfl, trivial⟩ h
      · replace h := h.1 hc
        show G Γ m_FB_fillBest (d + 1) (0, 0) Q 83 [.ref r0, .int x1, .int x2, .int v1, .int (w (-1))] [] μ1
        obtain ⟨is4, h⟩ := h
        refine run_ok (pc' := 91) [(.aload_n 0, 0, 0, 0), (.getfield 90, 10, 16, 2), (.iload_n 1, 0, 0, 0), (.iload 4, 0, 0, 0), (.iastore, 0, 0, 0)] _ _ _ _ (by decide +kernel) ?_
        show _ ∧ (∃ _, _ ∧ (_ ∧ (_)))
        refine ⟨((o_r0_10).mono hn1), a2, ea2, is4, ?_⟩
        show G Γ m_FB_fillBest (d + 1) (0, 0) Q 91 [.ref r0, .int x1, .int x2, .int v1, .int (w (-1))] [] (sI μ1 a2 x1.toNatClampNeg (w (-1)))
        obtain ⟨μ5, em5⟩ : ∃ m : XM, m = sI μ1 a2 x1.toNatClampNeg (w (-1)) := ⟨_, rfl⟩
        replace h := h μ5 em5
        have hm5 : xN μ1 ≤ xN μ5 := by rw [em5]; exact Nat.le_refl _
        rw [← em5]
        obtain ⟨a6, ea6, h⟩ := h
        obtain ⟨is7, h⟩ := h
        refine run_ok (pc' := 98) [(.aload_n 0, 0, 0, 0), (.getfield 94, 10, 17, 2), (.iload_n 1, 0, 0, 0), (.iload_n 2, 0, 0, 0), (.iastore, 0, 0, 0)] _ _ _ _ (by decide +kernel) ?_
        show _ ∧ (∃ _, _ ∧ (_ ∧ (_)))
        refine ⟨(((o_r0_10).mono hn1).mono hm5), a6, ea6, is7, ?_⟩
        show G Γ m_FB_fillBest (d + 1) (0, 0) Q 98 [.ref r0, .int x1, .int x2, .int v1, .int (w (-1))] [] (sI μ5 a6 x1.toNatClampNeg x2)
        obtain ⟨μ8, em8⟩ : ∃ m : XM, m = sI μ5 a6 x1.toNatClampNeg x2 := ⟨_, rfl⟩
        replace h := h μ8 em8
        have hm8 : xN μ5 ≤ xN μ8 := by rw [em8]; exact Nat.le_refl _
        rw [← em8]
        refine run_ok (pc' := 31) [(.iinc 2 1, 0, 0, 0), (.goto (-70), 0, 0, 0)] _ _ _ _ (by decide +kernel) ?_
        show G Γ m_FB_fillBest (d + 1) (0, 0) Q 31 [.ref r0, .int x1, .int (x2 + w 1), .int v1, .int (w (-1))] [] μ8
        exact g_wk (ls' := [.ref r0, .int x1, .int (x2 + w 1)]) ⟨Or.inr rfl, Or.inr rfl, Or.inr rfl, trivial⟩ h
    · replace h := h.1 hc
      show G Γ m_FB_fillBest (d + 1) (0, 0) Q 60 [.ref r0, .int x1, .int x2, .int v1] [] μ1
      refine run_ok (pc' := 63) [(.aload_n 0, 0, 0, 0), (.iload_n 1, 0, 0, 0), (.iload_n 3, 0, 0, 0)] _ _ _ _ (by decide +kernel) ?_
      show G Γ m_FB_fillBest (d + 1) (0, 0) Q 63 [.ref r0, .int x1, .int x2, .int v1] [.int v1, .int x1, .ref r0] μ1
      refine g_invV (M' := m_FB_bestWithFirst) (b1 := 0) (b2 := 0) (As := [.int x1, .int v1]) (a := r0) (st := []) lk_10_371 (by decide +kernel) rfl (dk_FB_bestWithFirst d) (Nat.le_of_ble_eq_true rfl) (Or.inl ⟨10, ((o_r0_10).mono hn1), rfl⟩) h ?_
      rintro _ μ9 ⟨v9, rfl, h⟩ hn9
      show G Γ m_FB_fillBest (d + 1) (0, 0) Q 66 [.ref r0, .int x1, .int x2, .int v1] [.int v9] μ9
      obtain ⟨a10, ea10, h⟩ := h
      obtain ⟨ib11, h⟩ := h
      refine run_ok (pc' := 80) [(.goto 4, 0, 0, 0), (.istore 4, 0, 0, 0), (.iload 4, 0, 0, 0), (.aload_n 0, 0, 0, 0), (.getfield 90, 10, 16, 2), (.iload_n 1, 0, 0, 0), (.iaload, 0, 0, 0)] _ _ _ _ (by decide +kernel) ?_
      show _ ∧ (∃ _, _ ∧ (_ ∧ (_)))
      refine ⟨(((o_r0_10).mono hn1).mono hn9), a10, ea10, ib11, ?_⟩
      show G Γ m_FB_fillBest (d + 1) (0, 0) Q 80 [.ref r0, .int x1, .int x2, .int v1, .int v9] [.int (xI μ9 a10 x1.toNatClampNeg), .int v9] μ9
      refine g_icmp_le (pc' := 98) (off := 18) (by decide) (by decide +kernel) (fun hc => ?_) (fun hc => ?_)
      · replace h := h.2 hc
        show G Γ m_FB_fillBest (d + 1) (0, 0) Q 98 [.ref r0, .int x1, .int x2, .int v1, .int v9] [] μ9
        refine run_ok (pc' := 31) [(.iinc 2 1, 0, 0, 0), (.goto (-70), 0, 0, 0)] _ _ _ _ (by decide +kernel) ?_
        show G Γ m_FB_fillBest (d + 1) (0, 0) Q 31 [.ref r0, .int x1, .int (x2 + w 1), .int v1, .int v9] [] μ9
        exact g_wk (ls' := [.ref r0, .int x1, .int (x2 + w 1)]) ⟨Or.inr rfl, Or.inr rfl, Or.inr rfl, trivial⟩ h
      · replace h := h.1 hc
        show G Γ m_FB_fillBest (d + 1) (0, 0) Q 83 [.ref r0, .int x1, .int x2, .int v1, .int v9] [] μ9
        obtain ⟨is12, h⟩ := h
        refine run_ok (pc' := 91) [(.aload_n 0, 0, 0, 0), (.getfield 90, 10, 16, 2), (.iload_n 1, 0, 0, 0), (.iload 4, 0, 0, 0), (.iastore, 0, 0, 0)] _ _ _ _ (by decide +kernel) ?_
        show _ ∧ (∃ _, _ ∧ (_ ∧ (_)))
        refine ⟨(((o_r0_10).mono hn1).mono hn9), a10, ea10, is12, ?_⟩
        show G Γ m_FB_fillBest (d + 1) (0, 0) Q 91 [.ref r0, .int x1, .int x2, .int v1, .int v9] [] (sI μ9 a10 x1.toNatClampNeg v9)
        obtain ⟨μ13, em13⟩ : ∃ m : XM, m = sI μ9 a10 x1.toNatClampNeg v9 := ⟨_, rfl⟩
        replace h := h μ13 em13
        have hm13 : xN μ9 ≤ xN μ13 := by rw [em13]; exact Nat.le_refl _
        rw [← em13]
        obtain ⟨a14, ea14, h⟩ := h
        obtain ⟨is15, h⟩ := h
        refine run_ok (pc' := 98) [(.aload_n 0, 0, 0, 0), (.getfield 94, 10, 17, 2), (.iload_n 1, 0, 0, 0), (.iload_n 2, 0, 0, 0), (.iastore, 0, 0, 0)] _ _ _ _ (by decide +kernel) ?_
        show _ ∧ (∃ _, _ ∧ (_ ∧ (_)))
        refine ⟨((((o_r0_10).mono hn1).mono hn9).mono hm13), a14, ea14, is15, ?_⟩
        show G Γ m_FB_fillBest (d + 1) (0, 0) Q 98 [.ref r0, .int x1, .int x2, .int v1, .int v9] [] (sI μ13 a14 x1.toNatClampNeg x2)
        obtain ⟨μ16, em16⟩ : ∃ m : XM, m = sI μ13 a14 x1.toNatClampNeg x2 := ⟨_, rfl⟩
        replace h := h μ16 em16
        have hm16 : xN μ13 ≤ xN μ16 := by rw [em16]; exact Nat.le_refl _
        rw [← em16]
        refine run_ok (pc' := 31) [(.iinc 2 1, 0, 0, 0), (.goto (-70), 0, 0, 0)] _ _ _ _ (by decide +kernel) ?_
        show G Γ m_FB_fillBest (d + 1) (0, 0) Q 31 [.ref r0, .int x1, .int (x2 + w 1), .int v1, .int v9] [] μ16
        exact g_wk (ls' := [.ref r0, .int x1, .int (x2 + w 1)]) ⟨Or.inr rfl, Or.inr rfl, Or.inr rfl, trivial⟩ h
/-! FrostBox bestWithFirst(II)I -/
set_option maxRecDepth 100000 in
theorem lk_10_374 : LkS 10 374 m_In_bitCount 1 := ⟨lc_In_bitCount, lwG_in (List.mem_of_getElem? (i := 950) rfl) rfl, lwG_in (List.mem_of_getElem? (i := 951) rfl) rfl⟩
set_option maxRecDepth 100000 in
theorem B_FB_bestWithFirst_0 {Γ : XG} {d : Nat} {Q : Option Value → XM → Prop} {r0 r0_9 : Nat} {x1 x2 : Int32} {μ : XM} (o_r0_10 : ob μ r0 10) (e_r0_9 : xR μ r0 9 = some r0_9) (o_r0_9_6 : ob μ r0_9 6) (h : Call Γ m_In_bitCount d [.int x1] μ (KI (fun v1 μ1 => Call Γ m_In_bitCount d [.int (x1 &&& (((w 1) <<< (x2 &&& 31)) - (w 1)))] μ1 (KI (fun v2 μ2 => xR μ2 r0 9 = some r0_9 ∧ Call Γ m_FB_valueThen d [.ref r0, .ref r0_9, .int x2, .int ((xI μ r0_9 4) - v1), .int ((xI μ r0_9 4) - v1), .int v2] μ2 (KI (fun v4 μ4 => ∃ a5, xR μ4 r0 16 = some a5 ∧ inb μ4 0 a5 (x1 &&& (((w 1) <<< (x2 &&& 31)) ^^^ (w (-1)))) ∧ Q (some (.int (v4 + (xI μ4 a5 (x1 &&& (((w 1) <<< (x2 &&& 31)) ^^^ (w (-1)))).toNatClampNeg)))) μ4))))))) : G Γ m_FB_bestWithFirst (d + 1) (0, 0) Q 0 [.ref r0, .int x1, .int x2] [] μ := by
  refine run_ok (pc' := 8) [(.aload_n 0, 0, 0, 0), (.getfield 48, 10, 9, 2), (.getfield 223, 6, 4, 0), (.iload_n 1, 0, 0, 0)] _ _ _ _ (by decide +kernel) ?_
  show _ ∧ (∃ _, _ ∧ (_ ∧ (_)))
  refine ⟨o_r0_10, r0_9, e_r0_9, o_r0_9_6, ?_⟩
  show G Γ m_FB_bestWithFirst (d + 1) (0, 0) Q 8 [.ref r0, .int x1, .int x2] [.int x1, .int (xI μ r0_9 4)] μ
  refine g_invS (M' := m_In_bitCount) (b1 := 0) (b2 := 0) (As := [.int x1]) (st := [.int (xI μ r0_9 4)]) lk_10_374 (by decide +kernel) rfl (dk_In_bitCount d) (Nat.le_of_ble_eq_true rfl) h ?_
  rintro _ μ1 ⟨v1, rfl, h⟩ hn1
  show G Γ m_FB_bestWithFirst (d + 1) (0, 0) Q 11 [.ref r0, .int x1, .int x2] [.int v1, .int (xI μ r0_9 4)] μ1
  refine run_ok (pc' := 20) [(.isub, 0, 0, 0), (.istore_n 3, 0, 0, 0), (.iload_n 1, 0, 0, 0), (.iconst 1, 0, 0, 0), (.iload_n 2, 0, 0, 0), (.ishl, 0, 0, 0), (.iconst 1, 0, 0, 0), (.isub, 0, 0, 0), (.iand, 0, 0, 0)] _ _ _ _ (by decide +kernel) ?_
  show G Γ m_FB_bestWithFirst (d + 1) (0, 0) Q 20 [.ref r0, .int x1, .int x2, .int ((xI μ r0_9 4) - v1)] [.int (x1 &&& (((w 1) <<< (x2 &&& 31)) - (w 1)))] μ1
  refine g_invS (M' := m_In_bitCount) (b1 := 0) (b2 := 0) (As := [.int (x1 &&& (((w 1) <<< (x2 &&& 31)) - (w 1)))]) (st := []) lk_10_374 (by decide +kernel) rfl (dk_In_bitCount d) (Nat.le_of_ble_eq_true rfl) h ?_
  rintro _ μ2 ⟨v2, rfl, h⟩ hn2
  show G Γ m_FB_bestWithFirst (d + 1) (0, 0) Q 23 [.ref r0, .int x1, .int x2, .int ((xI μ r0_9 4) - v1)] [.int v2] μ2
  obtain ⟨ea3, h⟩ := h
  refine run_ok (pc' := 35) [(.istore 4, 0, 0, 0), (.aload_n 0, 0, 0, 0), (.aload_n 0, 0, 0, 0), (.getfield 48, 10, 9, 2), (.iload_n 2, 0, 0, 0), (.iload_n 3, 0, 0, 0), (.iload_n 3, 0, 0, 0), (.iload 4, 0, 0, 0)] _ _ _ _ (by decide +kernel) ?_
  show _ ∧ (∃ _, _ ∧ (_))
  refine ⟨(((o_r0_10).mono hn1).mono hn2), r0_9, ea3, ?_⟩
  show G Γ m_FB_bestWithFirst (d + 1) (0, 0) Q 35 [.ref r0, .int x1, .int x2, .int ((xI μ r0_9 4) - v1), .int v2] [.int v2, .int ((xI μ r0_9 4) - v1), .int ((xI μ r0_9 4) - v1), .int x2, .ref r0_9, .ref r0] μ2
  refine g_invV (M' := m_FB_valueThen) (b1 := 0) (b2 := 0) (As := [.ref r0_9, .int x2, .int ((xI μ r0_9 4) - v1), .int ((xI μ r0_9 4) - v1), .int v2]) (a := r0) (st := []) lk_10_224 (by decide +kernel) rfl (dk_FB_valueThen d) (Nat.le_of_ble_eq_true rfl) (Or.inl ⟨10, (((o_r0_10).mono hn1).mono hn2), rfl⟩) h ?_
  rintro _ μ4 ⟨v4, rfl, h⟩ hn4
  show G Γ m_FB_bestWithFirst (d + 1) (0, 0) Q 38 [.ref r0, .int x1, .int x2, .int ((xI μ r0_9 4) - v1), .int v2] [.int v4] μ4
  obtain ⟨a5, ea5, h⟩ := h
  obtain ⟨ib6, h⟩ := h
  refine run_ok (pc' := 51) [(.aload_n 0, 0, 0, 0), (.getfield 90, 10, 16, 2), (.iload_n 1, 0, 0, 0), (.iconst 1, 0, 0, 0), (.iload_n 2, 0, 0, 0), (.ishl, 0, 0, 0), (.iconst (-1), 0, 0, 0), (.ixor, 0, 0, 0), (.iand, 0, 0, 0), (.iaload, 0, 0, 0), (.iadd, 0, 0, 0)] _ _ _ _ (by decide +kernel) ?_
  show _ ∧ (∃ _, _ ∧ (_ ∧ (_)))
  refine ⟨((((o_r0_10).mono hn1).mono hn2).mono hn4), a5, ea5, ib6, ?_⟩
  show G Γ m_FB_bestWithFirst (d + 1) (0, 0) Q 51 [.ref r0, .int x1, .int x2, .int ((xI μ r0_9 4) - v1), .int v2] [.int (v4 + (xI μ4 a5 (x1 &&& (((w 1) <<< (x2 &&& 31)) ^^^ (w (-1)))).toNatClampNeg))] μ4
  exact g_reti (by decide +kernel) rfl h
/-! FrostBox bestOrder()I -/
set_option maxRecDepth 100000 in
theorem B_FB_bestOrder_0 {Γ : XG} {d : Nat} {Q : Option Value → XM → Prop} {r0 r0_9 : Nat} {μ : XM} (o_r0_10 : ob μ r0 10) (e_r0_9 : xR μ r0 9 = some r0_9) (o_r0_9_6 : ob μ r0_9 6) (h : G Γ m_FB_bestOrder (d + 1) (0, 0) Q 16 [.ref r0, .int (((w 1) <<< ((xI μ r0_9 4) &&& 31)) - (w 1)), .int (w 0), .int (w 0)] [] μ) : G Γ m_FB_bestOrder (d + 1) (0, 0) Q 0 [.ref r0] [] μ := by
  refine run_ok (pc' := 16) [(.iconst 1, 0, 0, 0), (.aload_n 0, 0, 0, 0), (.getfield 48, 10, 9, 2), (.getfield 223, 6, 4, 0), (.ishl, 0, 0, 0), (.iconst 1, 0, 0, 0), (.isub, 0, 0, 0), (.istore_n 1, 0, 0, 0), (.iconst 0, 0, 0, 0), (.istore_n 2, 0, 0, 0), (.iconst 0, 0, 0, 0), (.istore_n 3, 0, 0, 0)] _ _ _ _ (by decide +kernel) ?_
  show _ ∧ (∃ _, _ ∧ (_ ∧ (_)))
  refine ⟨o_r0_10, r0_9, e_r0_9, o_r0_9_6, ?_⟩
  show G Γ m_FB_bestOrder (d + 1) (0, 0) Q 16 [.ref r0, .int (((w 1) <<< ((xI μ r0_9 4) &&& 31)) - (w 1)), .int (w 0), .int (w 0)] [] μ
  exact h
set_option maxRecDepth 100000 in
theorem B_FB_bestOrder_16 {Γ : XG} {d : Nat} {Q : Option Value → XM → Prop} {r0 r0_9 r0_17 : Nat} {x1 x2 x3 : Int32} {μ : XM} (o_r0_10 : ob μ r0 10) (e_r0_9 : xR μ r0 9 = some r0_9) (o_r0_9_6 : ob μ r0_9 6) (e_r0_17 : xR μ r0 17 = some r0_17) (h : ((x3 < xI μ r0_9 4 → inb μ 0 r0_17 x1 ∧ Call Γ m_Pi_indexOf d [.ref r0_9, .int (xI μ r0_17 x1.toNatClampNeg)] μ (KI (fun v2 μ2 => G Γ m_FB_bestOrder (d + 1) (0, 0) Q 16 [.ref r0, .int (x1 &&& (((w 1) <<< (v2 &&& 31)) ^^^ (w (-1)))), .int ((x2 * (w 10)) + (xI μ r0_17 x1.toNatClampNeg)), .int (x3 + w 1)] [] μ2))) ∧ (¬ x3 < xI μ r0_9 4 → Q (some (.int x2)) μ))) : G Γ m_FB_bestOrder (d + 1) (0, 0) Q 16 [.ref r0, .int x1, .int x2, .int x3] [] μ := by
  refine run_ok (pc' := 24) [(.iload_n 3, 0, 0, 0), (.aload_n 0, 0, 0, 0), (.getfield 48, 10, 9, 2), (.getfield 223, 6, 4, 0)] _ _ _ _ (by decide +kernel) ?_
  show _ ∧ (∃ _, _ ∧ (_ ∧ (_)))
  refine ⟨o_r0_10, r0_9, e_r0_9, o_r0_9_6, ?_⟩
  show G Γ m_FB_bestOrder (d + 1) (0, 0) Q 24 [.ref r0, .int x1, .int x2, .int x3] [.int (xI μ r0_9 4), .int x3] μ
  refine g_icmp_ge (pc' := 65) (off := 41) (by decide) (by decide +kernel) (fun hc => ?_) (fun hc => ?_)
  · replace h := h.2 hc
    show G Γ m_FB_bestOrder (d + 1) (0, 0) Q 65 [.ref r0, .int x1, .int x2, .int x3] [] μ
    refine run_ok (pc' := 66) [(.iload_n 2, 0, 0, 0)] _ _ _ _ (by decide +kernel) ?_
    show G Γ m_FB_bestOrder (d + 1) (0, 0) Q 66 [.ref r0, .int x1, .int x2, .int x3] [.int x2] μ
    exact g_reti (by decide +kernel) rfl h
  · replace h := h.1 hc
    show G Γ m_FB_bestOrder (d + 1) (0, 0) Q 27 [.ref r0, .int x1, .int x2, .int x3] [] μ
    obtain ⟨ib1, h⟩ := h
    refine run_ok (pc' := 51) [(.aload_n 0, 0, 0, 0), (.getfield 94, 10, 17, 2), (.iload_n 1, 0, 0, 0), (.iaload, 0, 0, 0), (.istore 4, 0, 0, 0), (.iload_n 2, 0, 0, 0), (.bipush 10, 0, 0, 0), (.imul, 0, 0, 0), (.iload 4, 0, 0, 0), (.iadd, 0, 0, 0), (.istore_n 2, 0, 0, 0), (.iload_n 1, 0, 0, 0), (.iconst 1, 0, 0, 0), (.aload_n 0, 0, 0, 0), (.getfield 48, 10, 9, 2), (.iload 4, 0, 0, 0)] _ _ _ _ (by decide +kernel) ?_
    show _ ∧ (∃ _, _ ∧ (_ ∧ (_ ∧ (∃ _, _ ∧ (_)))))
    refine ⟨o_r0_10, r0_17, e_r0_17, ib1, o_r0_10, r0_9, e_r0_9, ?_⟩
    show G Γ m_FB_bestOrder (d + 1) (0, 0) Q 51 [.ref r0, .int x1, .int ((x2 * (w 10)) + (xI μ r0_17 x1.toNatClampNeg)), .int x3, .int (xI μ r0_17 x1.toNatClampNeg)] [.int (xI μ r0_17 x1.toNatClampNeg), .ref r0_9, .int (w 1), .int x1] μ
    refine g_invV (M' := m_Pi_indexOf) (b1 := 0) (b2 := 0) (As := [.int (xI μ r0_17 x1.toNatClampNeg)]) (a := r0_9) (st := [.int (w 1), .int x1]) lk_10_182 (by decide +kernel) rfl (dk_Pi_indexOf d) (Nat.le_of_ble_eq_true rfl) (Or.inl ⟨6, o_r0_9_6, rfl⟩) h ?_
    rintro _ μ2 ⟨v2, rfl, h⟩ hn2
    show G Γ m_FB_bestOrder (d + 1) (0, 0) Q 54 [.ref r0, .int x1, .int ((x2 * (w 10)) + (xI μ r0_17 x1.toNatClampNeg)), .int x3, .int (xI μ r0_17 x1.toNatClampNeg)] [.int v2, .int (w 1), .int x1] μ2
    refine run_ok (pc' := 16) [(.ishl, 0, 0, 0), (.iconst (-1), 0, 0, 0), (.ixor, 0, 0, 0), (.iand, 0, 0, 0), (.istore_n 1, 0, 0, 0), (.iinc 3 1, 0, 0, 0), (.goto (-46), 0, 0, 0)] _ _ _ _ (by decide +kernel) ?_
    show G Γ m_FB_bestOrder (d + 1) (0, 0) Q 16 [.ref r0, .int (x1 &&& (((w 1) <<< (v2 &&& 31)) ^^^ (w (-1)))), .int ((x2 * (w 10)) + (xI μ r0_17 x1.toNatClampNeg)), .int (x3 + w 1), .int (xI μ r0_17 x1.toNatClampNeg)] [] μ2
    exact g_wk (ls' := [.ref r0, .int (x1 &&& (((w 1) <<< (v2 &&& 31)) ^^^ (w (-1)))), .int ((x2 * (w 10)) + (xI μ r0_17 x1.toNatClampNeg)), .int (x3 + w 1)]) ⟨Or.inr rfl, Or.inr rfl, Or.inr rfl, Or.inr rfl, trivial⟩ h
