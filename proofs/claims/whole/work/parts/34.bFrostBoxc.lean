/-! FrostBox eatenInTurn(Z)I -/
set_option maxRecDepth 100000 in
theorem B_FB_eatenInTurn_0 {Γ : XG} {d : Nat} {Q : Option Value → XM → Prop} {r0 : Nat} {x1 : Int32} {μ : XM}  (h : G Γ m_FB_eatenInTurn (d + 1) (0, 0) Q 4 [.ref r0, .int x1, .int (w 0), .int (w 0)] [] μ) : G Γ m_FB_eatenInTurn (d + 1) (0, 0) Q 0 [.ref r0, .int x1] [] μ := by
  refine run_ok (pc' := 4) [(.iconst 0, 0, 0, 0), (.istore_n 2, 0, 0, 0), (.iconst 0, 0, 0, 0), (.istore_n 3, 0, 0, 0)] _ _ _ _ (by decide +kernel) ?_
  show G Γ m_FB_eatenInTurn (d + 1) (0, 0) Q 4 [.ref r0, .int x1, .int (w 0), .int (w 0)] [] μ
  exact h
set_option maxRecDepth 100000 in
theorem B_FB_eatenInTurn_4 {Γ : XG} {d : Nat} {Q : Option Value → XM → Prop} {r0 r0_9 : Nat} {x1 x2 x3 : Int32} {μ : XM} (o_r0_10 : ob μ r0 10) (e_r0_9 : xR μ r0 9 = some r0_9) (o_r0_9_6 : ob μ r0_9 6) (h : ((x3 < xI μ r0_9 4 → ((x1 = w 0 → ((x1 = w 0 → Call Γ m_FB_valueThen d [.ref r0, .ref r0_9, .int x3, .int x3, .int x3, .int (w 0)] μ (KI (fun v1 μ1 => G Γ m_FB_eatenInTurn (d + 1) (0, 0) Q 4 [.ref r0, .int x1, .int (x2 + v1), .int (x3 + w 1)] [] μ1))) ∧ (¬ x1 = w 0 → Call Γ m_FB_valueThen d [.ref r0, .ref r0_9, .int x3, .int x3, .int x3, .int x3] μ (KI (fun v2 μ2 => G Γ m_FB_eatenInTurn (d + 1) (0, 0) Q 4 [.ref r0, .int x1, .int (x2 + v2), .int (x3 + w 1)] [] μ2))))) ∧ (¬ x1 = w 0 → ((x1 = w 0 → Call Γ m_FB_valueThen d [.ref r0, .ref r0_9, .int (((xI μ r0_9 4) - (w 1)) - x3), .int x3, .int x3, .int (w 0)] μ (KI (fun v3 μ3 => G Γ m_FB_eatenInTurn (d + 1) (0, 0) Q 4 [.ref r0, .int x1, .int (x2 + v3), .int (x3 + w 1)] [] μ3))) ∧ (¬ x1 = w 0 → Call Γ m_FB_valueThen d [.ref r0, .ref r0_9, .int (((xI μ r0_9 4) - (w 1)) - x3), .int x3, .int x3, .int (((xI μ r0_9 4) - (w 1)) - x3)] μ (KI (fun v4 μ4 => G Γ m_FB_eatenInTurn (d + 1) (0, 0) Q 4 [.ref r0, .int x1, .int (x2 + v4), .int (x3 + w 1)] [] μ4))))))) ∧ (¬ x3 < xI μ r0_9 4 → Q (some (.int x2)) μ))) : G Γ m_FB_eatenInTurn (d + 1) (0, 0) Q 4 [.ref r0, .int x1, .int x2, .int x3] [] μ := by
  refine run_ok (pc' := 12) [(.iload_n 3, 0, 0, 0), (.aload_n 0, 0, 0, 0), (.getfield 48, 10, 9, 2), (.getfield 223, 6, 4, 0)] _ _ _ _ (by decide +kernel) ?_
  show _ ∧ (∃ _, _ ∧ (_ ∧ (_)))
  refine ⟨o_r0_10, r0_9, e_r0_9, o_r0_9_6, ?_⟩
  show G Γ m_FB_eatenInTurn (d + 1) (0, 0) Q 12 [.ref r0, .int x1, .int x2, .int x3] [.int (xI μ r0_9 4), .int x3] μ
  refine g_icmp_ge (pc' := 67) (off := 55) (by decide) (by decide +kernel) (fun hc => ?_) (fun hc => ?_)
  · replace h := h.2 hc
    show G Γ m_FB_eatenInTurn (d + 1) (0, 0) Q 67 [.ref r0, .int x1, .int x2, .int x3] [] μ
    refine run_ok (pc' := 68) [(.iload_n 2, 0, 0, 0)] _ _ _ _ (by decide +kernel) ?_
    show G Γ m_FB_eatenInTurn (d + 1) (0, 0) Q 68 [.ref r0, .int x1, .int x2, .int x3] [.int x2] μ
    exact g_reti (by decide +kernel) rfl h
  · replace h := h.1 hc
    show G Γ m_FB_eatenInTurn (d + 1) (0, 0) Q 15 [.ref r0, .int x1, .int x2, .int x3] [] μ
    refine run_ok (pc' := 16) [(.iload_n 1, 0, 0, 0)] _ _ _ _ (by decide +kernel) ?_
    show G Γ m_FB_eatenInTurn (d + 1) (0, 0) Q 16 [.ref r0, .int x1, .int x2, .int x3] [.int x1] μ
    refine g_ifz_eq (pc' := 33) (off := 17) (by decide) (by decide +kernel) (fun hc => ?_) (fun hc => ?_)
    · replace h := h.1 hc
      show G Γ m_FB_eatenInTurn (d + 1) (0, 0) Q 33 [.ref r0, .int x1, .int x2, .int x3] [] μ
      refine run_ok (pc' := 47) [(.iload_n 3, 0, 0, 0), (.istore 4, 0, 0, 0), (.iload_n 2, 0, 0, 0), (.aload_n 0, 0, 0, 0), (.aload_n 0, 0, 0, 0), (.getfield 48, 10, 9, 2), (.iload 4, 0, 0, 0), (.iload_n 3, 0, 0, 0), (.iload_n 3, 0, 0, 0), (.iload_n 1, 0, 0, 0)] _ _ _ _ (by decide +kernel) ?_
      show _ ∧ (∃ _, _ ∧ (_))
      refine ⟨o_r0_10, r0_9, e_r0_9, ?_⟩
      show G Γ m_FB_eatenInTurn (d + 1) (0, 0) Q 47 [.ref r0, .int x1, .int x2, .int x3, .int x3] [.int x1, .int x3, .int x3, .int x3, .ref r0_9, .ref r0, .int x2] μ
      refine g_ifz_eq (pc' := 55) (off := 8) (by decide) (by decide +kernel) (fun hc => ?_) (fun hc => ?_)
      · replace h := h.1 hc
        show G Γ m_FB_eatenInTurn (d + 1) (0, 0) Q 55 [.ref r0, .int x1, .int x2, .int x3, .int x3] [.int x3, .int x3, .int x3, .ref r0_9, .ref r0, .int x2] μ
        refine run_ok (pc' := 56) [(.iconst 0, 0, 0, 0)] _ _ _ _ (by decide +kernel) ?_
        show G Γ m_FB_eatenInTurn (d + 1) (0, 0) Q 56 [.ref r0, .int x1, .int x2, .int x3, .int x3] [.int (w 0), .int x3, .int x3, .int x3, .ref r0_9, .ref r0, .int x2] μ
        refine g_invV (M' := m_FB_valueThen) (b1 := 0) (b2 := 0) (As := [.ref r0_9, .int x3, .int x3, .int x3, .int (w 0)]) (a := r0) (st := [.int x2]) lk_10_224 (by decide +kernel) rfl (dk_FB_valueThen d) (Nat.le_of_ble_eq_true rfl) (Or.inl ⟨10, o_r0_10, rfl⟩) h ?_
        rintro _ μ1 ⟨v1, rfl, h⟩ hn1
        show G Γ m_FB_eatenInTurn (d + 1) (0, 0) Q 59 [.ref r0, .int x1, .int x2, .int x3, .int x3] [.int v1, .int x2] μ1
        refine run_ok (pc' := 4) [(.iadd, 0, 0, 0), (.istore_n 2, 0, 0, 0), (.iinc 3 1, 0, 0, 0), (.goto (-60), 0, 0, 0)] _ _ _ _ (by decide +kernel) ?_
        show G Γ m_FB_eatenInTurn (d + 1) (0, 0) Q 4 [.ref r0, .int x1, .int (x2 + v1), .int (x3 + w 1), .int x3] [] μ1
        exact g_wk (ls' := [.ref r0, .int x1, .int (x2 + v1), .int (x3 + w 1)]) ⟨Or.inr rfl, Or.inr rfl, Or.inr rfl, Or.inr rfl, trivial⟩ h
      · replace h := h.2 hc
        show G Γ m_FB_eatenInTurn (d + 1) (0, 0) Q 50 [.ref r0, .int x1, .int x2, .int x3, .int x3] [.int x3, .int x3, .int x3, .ref r0_9, .ref r0, .int x2] μ
        refine run_ok (pc' := 56) [(.iload 4, 0, 0, 0), (.goto 4, 0, 0, 0)] _ _ _ _ (by decide +kernel) ?_
        show G Γ m_FB_eatenInTurn (d + 1) (0, 0) Q 56 [.ref r0, .int x1, .int x2, .int x3, .int x3] [.int x3, .int x3, .int x3, .int x3, .ref r0_9, .ref r0, .int x2] μ
        refine g_invV (M' := m_FB_valueThen) (b1 := 0) (b2 := 0) (As := [.ref r0_9, .int x3, .int x3, .int x3, .int x3]) (a := r0) (st := [.int x2]) lk_10_224 (by decide +kernel) rfl (dk_FB_valueThen d) (Nat.le_of_ble_eq_true rfl) (Or.inl ⟨10, o_r0_10, rfl⟩) h ?_
        rintro _ μ2 ⟨v2, rfl, h⟩ hn2
        show G Γ m_FB_eatenInTurn (d + 1) (0, 0) Q 59 [.ref r0, .int x1, .int x2, .int x3, .int x3] [.int v2, .int x2] μ2
        refine run_ok (pc' := 4) [(.iadd, 0, 0, 0), (.istore_n 2, 0, 0, 0), (.iinc 3 1, 0, 0, 0), (.goto (-60), 0, 0, 0)] _ _ _ _ (by decide +kernel) ?_
        show G Γ m_FB_eatenInTurn (d + 1) (0, 0) Q 4 [.ref r0, .int x1, .int (x2 + v2), .int (x3 + w 1), .int x3] [] μ2
        exact g_wk (ls' := [.ref r0, .int x1, .int (x2 + v2), .int (x3 + w 1)]) ⟨Or.inr rfl, Or.inr rfl, Or.inr rfl, Or.inr rfl, trivial⟩ h
    · replace h := h.2 hc
      show G Γ m_FB_eatenInTurn (d + 1) (0, 0) Q 19 [.ref r0, .int x1, .int x2, .int x3] [] μ
      refine run_ok (pc' := 47) [(.aload_n 0, 0, 0, 0), (.getfield 48, 10, 9, 2), (.getfield 223, 6, 4, 0), (.iconst 1, 0, 0, 0), (.isub, 0, 0, 0), (.iload_n 3, 0, 0, 0), (.isub, 0, 0, 0), (.goto 4, 0, 0, 0), (.istore 4, 0, 0, 0), (.iload_n 2, 0, 0, 0), (.aload_n 0, 0, 0, 0), (.aload_n 0, 0, 0, 0), (.getfield 48, 10, 9, 2), (.iload 4, 0, 0, 0), (.iload_n 3, 0, 0, 0), (.iload_n 3, 0, 0, 0), (.iload_n 1, 0, 0, 0)] _ _ _ _ (by decide +kernel) ?_
      show _ ∧ (∃ _, _ ∧ (_ ∧ (_ ∧ (∃ _, _ ∧ (_)))))
      refine ⟨o_r0_10, r0_9, e_r0_9, o_r0_9_6, o_r0_10, r0_9, e_r0_9, ?_⟩
      show G Γ m_FB_eatenInTurn (d + 1) (0, 0) Q 47 [.ref r0, .int x1, .int x2, .int x3, .int (((xI μ r0_9 4) - (w 1)) - x3)] [.int x1, .int x3, .int x3, .int (((xI μ r0_9 4) - (w 1)) - x3), .ref r0_9, .ref r0, .int x2] μ
      refine g_ifz_eq (pc' := 55) (off := 8) (by decide) (by decide +kernel) (fun hc => ?_) (fun hc => ?_)
      · replace h := h.1 hc
        show G Γ m_FB_eatenInTurn (d + 1) (0, 0) Q 55 [.ref r0, .int x1, .int x2, .int x3, .int (((xI μ r0_9 4) - (w 1)) - x3)] [.int x3, .int x3, .int (((xI μ r0_9 4) - (w 1)) - x3), .ref r0_9, .ref r0, .int x2] μ
        refine run_ok (pc' := 56) [(.iconst 0, 0, 0, 0)] _ _ _ _ (by decide +kernel) ?_
        show G Γ m_FB_eatenInTurn (d + 1) (0, 0) Q 56 [.ref r0, .int x1, .int x2, .int x3, .int (((xI μ r0_9 4) - (w 1)) - x3)] [.int (w 0), .int x3, .int x3, .int (((xI μ r0_9 4) - (w 1)) - x3), .ref r0_9, .ref r0, .int x2] μ
        refine g_invV (M' := m_FB_valueThen) (b1 := 0) (b2 := 0) (As := [.ref r0_9, .int (((xI μ r0_9 4) - (w 1)) - x3), .int x3, .int x3, .int (w 0)]) (a := r0) (st := [.int x2]) lk_10_224 (by decide +kernel) rfl (dk_FB_valueThen d) (Nat.le_of_ble_eq_true rfl) (Or.inl ⟨10, o_r0_10, rfl⟩) h ?_
        rintro _ μ3 ⟨v3, rfl, h⟩ hn3
        show G Γ m_FB_eatenInTurn (d + 1) (0, 0) Q 59 [.ref r0, .int x1, .int x2, .int x3, .int (((xI μ r0_9 4) - (w 1)) - x3)] [.int v3, .int x2] μ3
        refine run_ok (pc' := 4) [(.iadd, 0, 0, 0), (.istore_n 2, 0, 0, 0), (.iinc 3 1, 0, 0, 0), (.goto (-60), 0, 0, 0)] _ _ _ _ (by decide +kernel) ?_
        show G Γ m_FB_eatenInTurn (d + 1) (0, 0) Q 4 [.ref r0, .int x1, .int (x2 + v3), .int (x3 + w 1), .int (((xI μ r0_9 4) - (w 1)) - x3)] [] μ3
        exact g_wk (ls' := [.ref r0, .int x1, .int (x2 + v3), .int (x3 + w 1)]) ⟨Or.inr rfl, Or.inr rfl, Or.inr rfl, Or.inr rfl, trivial⟩ h
      · replace h := h.2 hc
        show G Γ m_FB_eatenInTurn (d + 1) (0, 0) Q 50 [.ref r0, .int x1, .int x2, .int x3, .int (((xI μ r0_9 4) - (w 1)) - x3)] [.int x3, .int x3, .int (((xI μ r0_9 4) - (w 1)) - x3), .ref r0_9, .ref r0, .int x2] μ
        refine run_ok (pc' := 56) [(.iload 4, 0, 0, 0), (.goto 4, 0, 0, 0)] _ _ _ _ (by decide +kernel) ?_
        show G Γ m_FB_eatenInTurn (d + 1) (0, 0) Q 56 [.ref r0, .int x1, .int x2, .int x3, .int (((xI μ r0_9 4) - (w 1)) - x3)] [.int (((xI μ r0_9 4) - (w 1)) - x3), .int x3, .int x3, .int (((xI μ r0_9 4) - (w 1)) - x3), .ref r0_9, .ref r0, .int x2] μ
        refine g_invV (M' := m_FB_valueThen) (b1 := 0) (b2 := 0) (As := [.ref r0_9, .int (((xI μ r0_9 4) - (w 1)) - x3), .int x3, .int x3, .int (((xI μ r0_9 4) - (w 1)) - x3)]) (a := r0) (st := [.int x2]) lk_10_224 (by decide +kernel) rfl (dk_FB_valueThen d) (Nat.le_of_ble_eq_true rfl) (Or.inl ⟨10, o_r0_10, rfl⟩) h ?_
        rintro _ μ4 ⟨v4, rfl, h⟩ hn4
        show G Γ m_FB_eatenInTurn (d + 1) (0, 0) Q 59 [.ref r0, .int x1, .int x2, .int x3, .int (((xI μ r0_9 4) - (w 1)) - x3)] [.int v4, .int x2] μ4
        refine run_ok (pc' := 4) [(.iadd, 0, 0, 0), (.istore_n 2, 0, 0, 0), (.iinc 3 1, 0, 0, 0), (.goto (-60), 0, 0, 0)] _ _ _ _ (by decide +kernel) ?_
        show G Γ m_FB_eatenInTurn (d + 1) (0, 0) Q 4 [.ref r0, .int x1, .int (x2 + v4), .int (x3 + w 1), .int (((xI μ r0_9 4) - (w 1)) - x3)] [] μ4
        exact g_wk (ls' := [.ref r0, .int x1, .int (x2 + v4), .int (x3 + w 1)]) ⟨Or.inr rfl, Or.inr rfl, Or.inr rfl, Or.inr rfl, trivial⟩ h
/-! FrostBox costs(I)I -/
set_option maxRecDepth 100000 in
theorem lk_10_379 : LkV 10 379 m_FB_valueOfAll 2 := ⟨lc_FB_valueOfAll, lwG_in (List.mem_of_getElem? (i := 964) rfl) rfl, lwG_in (List.mem_of_getElem? (i := 966) rfl) rfl, lwG_in (List.mem_of_getElem? (i := 44) rfl) rfl⟩
set_option maxRecDepth 100000 in
theorem B_FB_costs_0 {Γ : XG} {d : Nat} {Q : Option Value → XM → Prop} {r0 : Nat} {x1 : Int32} {μ : XM} (o_r0_10 : ob μ r0 10) (h : Call Γ m_FB_isHours d [.ref r0, .int x1] μ (KI (fun v1 μ1 => ((v1 = w 0 → Q (some (.int (w (-1)))) μ1) ∧ (¬ v1 = w 0 → Call Γ m_FB_valueOfAll d [.ref r0, .int (w 0), .int (w 0)] μ1 (KI (fun v2 μ2 => ∃ a3, xR μ2 r0 9 = some a3 ∧ Call Γ m_FB_hoursTooMany d [.ref r0, .ref a3, .int x1] μ2 (KI (fun v4 μ4 => Call Γ m_FB_valueOfAll d [.ref r0, .int v4, .int (w 0)] μ4 (KI (fun v5 μ5 => Q (some (.int (v2 - v5))) μ5))))))))))) : G Γ m_FB_costs (d + 1) (0, 0) Q 0 [.ref r0, .int x1] [] μ := by
  refine run_ok (pc' := 2) [(.aload_n 0, 0, 0, 0), (.iload_n 1, 0, 0, 0)] _ _ _ _ (by decide +kernel) ?_
  show G Γ m_FB_costs (d + 1) (0, 0) Q 2 [.ref r0, .int x1] [.int x1, .ref r0] μ
  refine g_invV (M' := m_FB_isHours) (b1 := 0) (b2 := 0) (As := [.int x1]) (a := r0) (st := []) lk_10_269 (by decide +kernel) rfl (dk_FB_isHours d) (Nat.le_of_ble_eq_true rfl) (Or.inl ⟨10, o_r0_10, rfl⟩) h ?_
  rintro _ μ1 ⟨v1, rfl, h⟩ hn1
  show G Γ m_FB_costs (d + 1) (0, 0) Q 5 [.ref r0, .int x1] [.int v1] μ1
  refine g_ifz_ne (pc' := 10) (off := 5) (by decide) (by decide +kernel) (fun hc => ?_) (fun hc => ?_)
  · replace h := h.2 hc
    show G Γ m_FB_costs (d + 1) (0, 0) Q 10 [.ref r0, .int x1] [] μ1
    refine run_ok (pc' := 13) [(.aload_n 0, 0, 0, 0), (.iconst 0, 0, 0, 0), (.iconst 0, 0, 0, 0)] _ _ _ _ (by decide +kernel) ?_
    show G Γ m_FB_costs (d + 1) (0, 0) Q 13 [.ref r0, .int x1] [.int (w 0), .int (w 0), .ref r0] μ1
    refine g_invV (M' := m_FB_valueOfAll) (b1 := 0) (b2 := 0) (As := [.int (w 0), .int (w 0)]) (a := r0) (st := []) lk_10_379 (by decide +kernel) rfl (dk_FB_valueOfAll d) (Nat.le_of_ble_eq_true rfl) (Or.inl ⟨10, ((o_r0_10).mono hn1), rfl⟩) h ?_
    rintro _ μ2 ⟨v2, rfl, h⟩ hn2
    show G Γ m_FB_costs (d + 1) (0, 0) Q 16 [.ref r0, .int x1] [.int v2] μ2
    obtain ⟨a3, ea3, h⟩ := h
    refine run_ok (pc' := 23) [(.aload_n 0, 0, 0, 0), (.aload_n 0, 0, 0, 0), (.aload_n 0, 0, 0, 0), (.getfield 48, 10, 9, 2), (.iload_n 1, 0, 0, 0)] _ _ _ _ (by decide +kernel) ?_
    show _ ∧ (∃ _, _ ∧ (_))
    refine ⟨(((o_r0_10).mono hn1).mono hn2), a3, ea3, ?_⟩
    show G Γ m_FB_costs (d + 1) (0, 0) Q 23 [.ref r0, .int x1] [.int x1, .ref a3, .ref r0, .ref r0, .int v2] μ2
    refine g_invV (M' := m_FB_hoursTooMany) (b1 := 0) (b2 := 0) (As := [.ref a3, .int x1]) (a := r0) (st := [.ref r0, .int v2]) lk_10_272 (by decide +kernel) rfl (dk_FB_hoursTooMany d) (Nat.le_of_ble_eq_true rfl) (Or.inl ⟨10, (((o_r0_10).mono hn1).mono hn2), rfl⟩) h ?_
    rintro _ μ4 ⟨v4, rfl, h⟩ hn4
    show G Γ m_FB_costs (d + 1) (0, 0) Q 26 [.ref r0, .int x1] [.int v4, .ref r0, .int v2] μ4
    refine run_ok (pc' := 27) [(.iconst 0, 0, 0, 0)] _ _ _ _ (by decide +kernel) ?_
    show G Γ m_FB_costs (d + 1) (0, 0) Q 27 [.ref r0, .int x1] [.int (w 0), .int v4, .ref r0, .int v2] μ4
    refine g_invV (M' := m_FB_valueOfAll) (b1 := 0) (b2 := 0) (As := [.int v4, .int (w 0)]) (a := r0) (st := [.int v2]) lk_10_379 (by decide +kernel) rfl (dk_FB_valueOfAll d) (Nat.le_of_ble_eq_true rfl) (Or.inl ⟨10, ((((o_r0_10).mono hn1).mono hn2).mono hn4), rfl⟩) h ?_
    rintro _ μ5 ⟨v5, rfl, h⟩ hn5
    show G Γ m_FB_costs (d + 1) (0, 0) Q 30 [.ref r0, .int x1] [.int v5, .int v2] μ5
    refine run_ok (pc' := 31) [(.isub, 0, 0, 0)] _ _ _ _ (by decide +kernel) ?_
    show G Γ m_FB_costs (d + 1) (0, 0) Q 31 [.ref r0, .int x1] [.int (v2 - v5)] μ5
    exact g_reti (by decide +kernel) rfl h
  · replace h := h.1 hc
    show G Γ m_FB_costs (d + 1) (0, 0) Q 8 [.ref r0, .int x1] [] μ1
    refine run_ok (pc' := 9) [(.iconst (-1), 0, 0, 0)] _ _ _ _ (by decide +kernel) ?_
    show G Γ m_FB_costs (d + 1) (0, 0) Q 9 [.ref r0, .int x1] [.int (w (-1))] μ1
    exact g_reti (by decide +kernel) rfl h
/-! FrostBox full(I)I -/
set_option maxRecDepth 100000 in
theorem B_FB_full_0 {Γ : XG} {d : Nat} {Q : Option Value → XM → Prop} {r0 : Nat} {x1 : Int32} {μ : XM} (o_r0_10 : ob μ r0 10) (h : Call Γ m_FB_isHours d [.ref r0, .int x1] μ (KI (fun v1 μ1 => ((v1 = w 0 → Q (some (.int (w (-1)))) μ1) ∧ (¬ v1 = w 0 → G Γ m_FB_full (d + 1) (0, 0) Q 12 [.ref r0, .int x1, .int (w 0)] [] μ1))))) : G Γ m_FB_full (d + 1) (0, 0) Q 0 [.ref r0, .int x1] [] μ := by
  refine run_ok (pc' := 2) [(.aload_n 0, 0, 0, 0), (.iload_n 1, 0, 0, 0)] _ _ _ _ (by decide +kernel) ?_
  show G Γ m_FB_full (d + 1) (0, 0) Q 2 [.ref r0, .int x1] [.int x1, .ref r0] μ
  refine g_invV (M' := m_FB_isHours) (b1 := 0) (b2 := 0) (As := [.int x1]) (a := r0) (st := []) lk_10_269 (by decide +kernel) rfl (dk_FB_isHours d) (Nat.le_of_ble_eq_true rfl) (Or.inl ⟨10, o_r0_10, rfl⟩) h ?_
  rintro _ μ1 ⟨v1, rfl, h⟩ hn1
  show G Γ m_FB_full (d + 1) (0, 0) Q 5 [.ref r0, .int x1] [.int v1] μ1
  refine g_ifz_ne (pc' := 10) (off := 5) (by decide) (by decide +kernel) (fun hc => ?_) (fun hc => ?_)
  · replace h := h.2 hc
    show G Γ m_FB_full (d + 1) (0, 0) Q 10 [.ref r0, .int x1] [] μ1
    refine run_ok (pc' := 12) [(.iconst 0, 0, 0, 0), (.istore_n 2, 0, 0, 0)] _ _ _ _ (by decide +kernel) ?_
    show G Γ m_FB_full (d + 1) (0, 0) Q 12 [.ref r0, .int x1, .int (w 0)] [] μ1
    exact h
  · replace h := h.1 hc
    show G Γ m_FB_full (d + 1) (0, 0) Q 8 [.ref r0, .int x1] [] μ1
    refine run_ok (pc' := 9) [(.iconst (-1), 0, 0, 0)] _ _ _ _ (by decide +kernel) ?_
    show G Γ m_FB_full (d + 1) (0, 0) Q 9 [.ref r0, .int x1] [.int (w (-1))] μ1
    exact g_reti (by decide +kernel) rfl h
set_option maxRecDepth 100000 in
theorem B_FB_full_12 {Γ : XG} {d : Nat} {Q : Option Value → XM → Prop} {r0 r0_1 r0_1_0 : Nat} {x1 x2 : Int32} {μ : XM} (o_r0_10 : ob μ r0 10) (e_r0_1 : xR μ r0 1 = some r0_1) (o_r0_1_1 : ob μ r0_1 1) (e_r0_1_0 : xR μ r0_1 0 = some r0_1_0) (h : inb μ 0 r0_1_0 (w 0) ∧ ((xI μ r0_1_0 (w 0).toNatClampNeg < x2 → Q (some (.int (w (-1)))) μ) ∧ (¬ xI μ r0_1_0 (w 0).toNatClampNeg < x2 → Call Γ m_FB_borneHours d [.ref r0, .int x2] μ (KI (fun v2 μ2 => ((v2 < x1 → G Γ m_FB_full (d + 1) (0, 0) Q 12 [.ref r0, .int x1, .int (x2 + w 1)] [] μ2) ∧ (¬ v2 < x1 → Q (some (.int x2)) μ2))))))) : G Γ m_FB_full (d + 1) (0, 0) Q 12 [.ref r0, .int x1, .int x2] [] μ := by
  obtain ⟨ib1, h⟩ := h
  refine run_ok (pc' := 22) [(.iload_n 2, 0, 0, 0), (.aload_n 0, 0, 0, 0), (.getfield 19, 10, 1, 2), (.getfield 166, 1, 0, 2), (.iconst 0, 0, 0, 0), (.iaload, 0, 0, 0)] _ _ _ _ (by decide +kernel) ?_
  show _ ∧ (∃ _, _ ∧ (_ ∧ (∃ _, _ ∧ (_ ∧ (_)))))
  refine ⟨o_r0_10, r0_1, e_r0_1, o_r0_1_1, r0_1_0, e_r0_1_0, ib1, ?_⟩
  show G Γ m_FB_full (d + 1) (0, 0) Q 22 [.ref r0, .int x1, .int x2] [.int (xI μ r0_1_0 (w 0).toNatClampNeg), .int x2] μ
  refine g_icmp_gt (pc' := 42) (off := 20) (by decide) (by decide +kernel) (fun hc => ?_) (fun hc => ?_)
  · replace h := h.1 hc
    show G Γ m_FB_full (d + 1) (0, 0) Q 42 [.ref r0, .int x1, .int x2] [] μ
    refine run_ok (pc' := 43) [(.iconst (-1), 0, 0, 0)] _ _ _ _ (by decide +kernel) ?_
    show G Γ m_FB_full (d + 1) (0, 0) Q 43 [.ref r0, .int x1, .int x2] [.int (w (-1))] μ
    exact g_reti (by decide +kernel) rfl h
  · replace h := h.2 hc
    show G Γ m_FB_full (d + 1) (0, 0) Q 25 [.ref r0, .int x1, .int x2] [] μ
    refine run_ok (pc' := 27) [(.aload_n 0, 0, 0, 0), (.iload_n 2, 0, 0, 0)] _ _ _ _ (by decide +kernel) ?_
    show G Γ m_FB_full (d + 1) (0, 0) Q 27 [.ref r0, .int x1, .int x2] [.int x2, .ref r0] μ
    refine g_invV (M' := m_FB_borneHours) (b1 := 0) (b2 := 0) (As := [.int x2]) (a := r0) (st := []) lk_10_230 (by decide +kernel) rfl (dk_FB_borneHours d) (Nat.le_of_ble_eq_true rfl) (Or.inl ⟨10, o_r0_10, rfl⟩) h ?_
    rintro _ μ2 ⟨v2, rfl, h⟩ hn2
    show G Γ m_FB_full (d + 1) (0, 0) Q 30 [.ref r0, .int x1, .int x2] [.int v2] μ2
    refine run_ok (pc' := 31) [(.iload_n 1, 0, 0, 0)] _ _ _ _ (by decide +kernel) ?_
    show G Γ m_FB_full (d + 1) (0, 0) Q 31 [.ref r0, .int x1, .int x2] [.int x1, .int v2] μ2
    refine g_icmp_lt (pc' := 36) (off := 5) (by decide) (by decide +kernel) (fun hc => ?_) (fun hc => ?_)
    · replace h := h.1 hc
      show G Γ m_FB_full (d + 1) (0, 0) Q 36 [.ref r0, .int x1, .int x2] [] μ2
      refine run_ok (pc' := 12) [(.iinc 2 1, 0, 0, 0), (.goto (-27), 0, 0, 0)] _ _ _ _ (by decide +kernel) ?_
      show G Γ m_FB_full (d + 1) (0, 0) Q 12 [.ref r0, .int x1, .int (x2 + w 1)] [] μ2
      exact h
    · replace h := h.2 hc
      show G Γ m_FB_full (d + 1) (0, 0) Q 34 [.ref r0, .int x1, .int x2] [] μ2
      refine run_ok (pc' := 35) [(.iload_n 2, 0, 0, 0)] _ _ _ _ (by decide +kernel) ?_
      show G Γ m_FB_full (d + 1) (0, 0) Q 35 [.ref r0, .int x1, .int x2] [.int x2] μ2
      exact g_reti (by decide +kernel) rfl h
/-! FrostBox keep(II)I -/
set_option maxRecDepth 100000 in
theorem B_FB_keep_0 {Γ : XG} {d : Nat} {Q : Option Value → XM → Prop} {r0 : Nat} {x1 x2 : Int32} {μ : XM} (o_r0_10 : ob μ r0 10) (h : Call Γ m_FB_isHours d [.ref r0, .int x1] μ (KI (fun v1 μ1 => ((v1 = w 0 → Q (some (.int (w (-1)))) μ1) ∧ (¬ v1 = w 0 → ((x2 < w 0 → Q (some (.int (w (-1)))) μ1) ∧ (¬ x2 < w 0 → ((w 9 < x2 → Q (some (.int (w (-1)))) μ1) ∧ (¬ w 9 < x2 → ∃ a2, xR μ1 r0 9 = some a2 ∧ Call Γ m_FB_hoursTooMany d [.ref r0, .ref a2, .int x1] μ1 (KI (fun v3 μ3 => G Γ m_FB_keep (d + 1) (0, 0) Q 36 [.ref r0, jk, .int x2, .int v3, .int (w 0), .int (w 0)] [] μ3))))))))))) : G Γ m_FB_keep (d + 1) (0, 0) Q 0 [.ref r0, .int x1, .int x2] [] μ := by
  refine run_ok (pc' := 2) [(.aload_n 0, 0, 0, 0), (.iload_n 1, 0, 0, 0)] _ _ _ _ (by decide +kernel) ?_
  show G Γ m_FB_keep (d + 1) (0, 0) Q 2 [.ref r0, .int x1, .int x2] [.int x1, .ref r0] μ
  refine g_invV (M' := m_FB_isHours) (b1 := 0) (b2 := 0) (As := [.int x1]) (a := r0) (st := []) lk_10_269 (by decide +kernel) rfl (dk_FB_isHours d) (Nat.le_of_ble_eq_true rfl) (Or.inl ⟨10, o_r0_10, rfl⟩) h ?_
  rintro _ μ1 ⟨v1, rfl, h⟩ hn1
  show G Γ m_FB_keep (d + 1) (0, 0) Q 5 [.ref r0, .int x1, .int x2] [.int v1] μ1
  refine g_ifz_eq (pc' := 18) (off := 13) (by decide) (by decide +kernel) (fun hc => ?_) (fun hc => ?_)
  · replace h := h.1 hc
    show G Γ m_FB_keep (d + 1) (0, 0) Q 18 [.ref r0, .int x1, .int x2] [] μ1
    refine run_ok (pc' := 19) [(.iconst (-1), 0, 0, 0)] _ _ _ _ (by decide +kernel) ?_
    show G Γ m_FB_keep (d + 1) (0, 0) Q 19 [.ref r0, .int x1, .int x2] [.int (w (-1))] μ1
    exact g_reti (by decide +kernel) rfl h
  · replace h := h.2 hc
    show G Γ m_FB_keep (d + 1) (0, 0) Q 8 [.ref r0, .int x1, .int x2] [] μ1
    refine run_ok (pc' := 9) [(.iload_n 2, 0, 0, 0)] _ _ _ _ (by decide +kernel) ?_
    show G Γ m_FB_keep (d + 1) (0, 0) Q 9 [.ref r0, .int x1, .int x2] [.int x2] μ1
    refine g_ifz_lt (pc' := 18) (off := 9) (by decide) (by decide +kernel) (fun hc => ?_) (fun hc => ?_)
    · replace h := h.1 hc
      show G Γ m_FB_keep (d + 1) (0, 0) Q 18 [.ref r0, .int x1, .int x2] [] μ1
      refine run_ok (pc' := 19) [(.iconst (-1), 0, 0, 0)] _ _ _ _ (by decide +kernel) ?_
      show G Γ m_FB_keep (d + 1) (0, 0) Q 19 [.ref r0, .int x1, .int x2] [.int (w (-1))] μ1
      exact g_reti (by decide +kernel) rfl h
    · replace h := h.2 hc
      show G Γ m_FB_keep (d + 1) (0, 0) Q 12 [.ref r0, .int x1, .int x2] [] μ1
      refine run_ok (pc' := 15) [(.iload_n 2, 0, 0, 0), (.bipush 9, 0, 0, 0)] _ _ _ _ (by decide +kernel) ?_
      show G Γ m_FB_keep (d + 1) (0, 0) Q 15 [.ref r0, .int x1, .int x2] [.int (w 9), .int x2] μ1
      refine g_icmp_le (pc' := 20) (off := 5) (by decide) (by decide +kernel) (fun hc => ?_) (fun hc => ?_)
      · replace h := h.2 hc
        show G Γ m_FB_keep (d + 1) (0, 0) Q 20 [.ref r0, .int x1, .int x2] [] μ1
        obtain ⟨a2, ea2, h⟩ := h
        refine run_ok (pc' := 26) [(.aload_n 0, 0, 0, 0), (.aload_n 0, 0, 0, 0), (.getfield 48, 10, 9, 2), (.iload_n 1, 0, 0, 0)] _ _ _ _ (by decide +kernel) ?_
        show _ ∧ (∃ _, _ ∧ (_))
        refine ⟨((o_r0_10).mono hn1), a2, ea2, ?_⟩
        show G Γ m_FB_keep (d + 1) (0, 0) Q 26 [.ref r0, .int x1, .int x2] [.int x1, .ref a2, .ref r0] μ1
        refine g_invV (M' := m_FB_hoursTooMany) (b1 := 0) (b2 := 0) (As := [.ref a2, .int x1]) (a := r0) (st := []) lk_10_272 (by decide +kernel) rfl (dk_FB_hoursTooMany d) (Nat.le_of_ble_eq_true rfl) (Or.inl ⟨10, ((o_r0_10).mono hn1), rfl⟩) h ?_
        rintro _ μ3 ⟨v3, rfl, h⟩ hn3
        show G Γ m_FB_keep (d + 1) (0, 0) Q 29 [.ref r0, .int x1, .int x2] [.int v3] μ3
        refine run_ok (pc' := 36) [(.istore_n 3, 0, 0, 0), (.iconst 0, 0, 0, 0), (.istore 4, 0, 0, 0), (.iconst 0, 0, 0, 0), (.istore 5, 0, 0, 0)] _ _ _ _ (by decide +kernel) ?_
        show G Γ m_FB_keep (d + 1) (0, 0) Q 36 [.ref r0, .int x1, .int x2, .int v3, .int (w 0), .int (w 0)] [] μ3
        exact g_wk (ls' := [.ref r0, jk, .int x2, .int v3, .int (w 0), .int (w 0)]) ⟨Or.inr rfl, Or.inl rfl, Or.inr rfl, Or.inr rfl, Or.inr rfl, Or.inr rfl, trivial⟩ h
      · replace h := h.1 hc
        show G Γ m_FB_keep (d + 1) (0, 0) Q 18 [.ref r0, .int x1, .int x2] [] μ1
        refine run_ok (pc' := 19) [(.iconst (-1), 0, 0, 0)] _ _ _ _ (by decide +kernel) ?_
        show G Γ m_FB_keep (d + 1) (0, 0) Q 19 [.ref r0, .int x1, .int x2] [.int (w (-1))] μ1
        exact g_reti (by decide +kernel) rfl h
set_option maxRecDepth 100000 in
theorem B_FB_keep_36 {Γ : XG} {d : Nat} {Q : Option Value → XM → Prop} {r0 r0_9 : Nat} {x2 x3 x4 x5 : Int32} {μ : XM} (o_r0_10 : ob μ r0 10) (e_r0_9 : xR μ r0 9 = some r0_9) (o_r0_9_6 : ob μ r0_9 6) (h : ((x5 < xI μ r0_9 4 → Call Γ m_Pi_indexOf d [.ref r0_9, .int x5] μ (KI (fun v1 μ1 => xR μ1 r0 9 = some r0_9 ∧ Call Γ m_FB_portionWorth d [.ref r0, .ref r0_9, .int v1, .int x3, .int (w 0), .int v1] μ1 (KI (fun v3 μ3 => ((v3 < x2 → G Γ m_FB_keep (d + 1) (0, 0) Q 36 [.ref r0, jk, .int x2, .int x3, .int x4, .int (x5 + w 1)] [] μ3) ∧ (¬ v3 < x2 → G Γ m_FB_keep (d + 1) (0, 0) Q 36 [.ref r0, jk, .int x2, .int x3, .int (x4 ||| ((w 1) <<< (x5 &&& 31))), .int (x5 + w 1)] [] μ3))))))) ∧ (¬ x5 < xI μ r0_9 4 → Q (some (.int x4)) μ))) : G Γ m_FB_keep (d + 1) (0, 0) Q 36 [.ref r0, jk, .int x2, .int x3, .int x4, .int x5] [] μ := by
  refine run_ok (pc' := 45) [(.iload 5, 0, 0, 0), (.aload_n 0, 0, 0, 0), (.getfield 48, 10, 9, 2), (.getfield 223, 6, 4, 0)] _ _ _ _ (by decide +kernel) ?_
  show _ ∧ (∃ _, _ ∧ (_ ∧ (_)))
  refine ⟨o_r0_10, r0_9, e_r0_9, o_r0_9_6, ?_⟩
  show G Γ m_FB_keep (d + 1) (0, 0) Q 45 [.ref r0, jk, .int x2, .int x3, .int x4, .int x5] [.int (xI μ r0_9 4), .int x5] μ
  refine g_icmp_ge (pc' := 92) (off := 47) (by decide) (by decide +kernel) (fun hc => ?_) (fun hc => ?_)
  · replace h := h.2 hc
    show G Γ m_FB_keep (d + 1) (0, 0) Q 92 [.ref r0, jk, .int x2, .int x3, .int x4, .int x5] [] μ
    refine run_ok (pc' := 94) [(.iload 4, 0, 0, 0)] _ _ _ _ (by decide +kernel) ?_
    show G Γ m_FB_keep (d + 1) (0, 0) Q 94 [.ref r0, jk, .int x2, .int x3, .int x4, .int x5] [.int x4] μ
    exact g_reti (by decide +kernel) rfl h
  · replace h := h.1 hc
    show G Γ m_FB_keep (d + 1) (0, 0) Q 48 [.ref r0, jk, .int x2, .int x3, .int x4, .int x5] [] μ
    refine run_ok (pc' := 54) [(.aload_n 0, 0, 0, 0), (.getfield 48, 10, 9, 2), (.iload 5, 0, 0, 0)] _ _ _ _ (by decide +kernel) ?_
    show _ ∧ (∃ _, _ ∧ (_))
    refine ⟨o_r0_10, r0_9, e_r0_9, ?_⟩
    show G Γ m_FB_keep (d + 1) (0, 0) Q 54 [.ref r0, jk, .int x2, .int x3, .int x4, .int x5] [.int x5, .ref r0_9] μ
    refine g_invV (M' := m_Pi_indexOf) (b1 := 0) (b2 := 0) (As := [.int x5]) (a := r0_9) (st := []) lk_10_182 (by decide +kernel) rfl (dk_Pi_indexOf d) (Nat.le_of_ble_eq_true rfl) (Or.inl ⟨6, o_r0_9_6, rfl⟩) h ?_
    rintro _ μ1 ⟨v1, rfl, h⟩ hn1
    show G Γ m_FB_keep (d + 1) (0, 0) Q 57 [.ref r0, jk, .int x2, .int x3, .int x4, .int x5] [.int v1] μ1
    obtain ⟨ea2, h⟩ := h
    refine run_ok (pc' := 70) [(.istore 6, 0, 0, 0), (.aload_n 0, 0, 0, 0), (.aload_n 0, 0, 0, 0), (.getfield 48, 10, 9, 2), (.iload 6, 0, 0, 0), (.iload_n 3, 0, 0, 0), (.iconst 0, 0, 0, 0), (.iload 6, 0, 0, 0)] _ _ _ _ (by decide +kernel) ?_
    show _ ∧ (∃ _, _ ∧ (_))
    refine ⟨((o_r0_10).mono hn1), r0_9, ea2, ?_⟩
    show G Γ m_FB_keep (d + 1) (0, 0) Q 70 [.ref r0, jk, .int x2, .int x3, .int x4, .int x5, .int v1] [.int v1, .int (w 0), .int x3, .int v1, .ref r0_9, .ref r0] μ1
    refine g_invV (M' := m_FB_portionWorth) (b1 := 0) (b2 := 0) (As := [.ref r0_9, .int v1, .int x3, .int (w 0), .int v1]) (a := r0) (st := []) lk_10_219 (by decide +kernel) rfl (dk_FB_portionWorth d) (Nat.le_of_ble_eq_true rfl) (Or.inl ⟨10, ((o_r0_10).mono hn1), rfl⟩) h ?_
    rintro _ μ3 ⟨v3, rfl, h⟩ hn3
    show G Γ m_FB_keep (d + 1) (0, 0) Q 73 [.ref r0, jk, .int x2, .int x3, .int x4, .int x5, .int v1] [.int v3] μ3
    refine run_ok (pc' := 74) [(.iload_n 2, 0, 0, 0)] _ _ _ _ (by decide +kernel) ?_
    show G Γ m_FB_keep (d + 1) (0, 0) Q 74 [.ref r0, jk, .int x2, .int x3, .int x4, .int x5, .int v1] [.int x2, .int v3] μ3
    refine g_icmp_lt (pc' := 86) (off := 12) (by decide) (by decide +kernel) (fun hc => ?_) (fun hc => ?_)
    · replace h := h.1 hc
      show G Γ m_FB_keep (d + 1) (0, 0) Q 86 [.ref r0, jk, .int x2, .int x3, .int x4, .int x5, .int v1] [] μ3
      refine run_ok (pc' := 36) [(.iinc 5 1, 0, 0, 0), (.goto (-53), 0, 0, 0)] _ _ _ _ (by decide +kernel) ?_
      show G Γ m_FB_keep (d + 1) (0, 0) Q 36 [.ref r0, jk, .int x2, .int x3, .int x4, .int (x5 + w 1), .int v1] [] μ3
      exact g_wk (ls' := [.ref r0, jk, .int x2, .int x3, .int x4, .int (x5 + w 1)]) ⟨Or.inr rfl, Or.inl rfl, Or.inr rfl, Or.inr rfl, Or.inr rfl, Or.inr rfl, trivial⟩ h
    · replace h := h.2 hc
      show G Γ m_FB_keep (d + 1) (0, 0) Q 77 [.ref r0, jk, .int x2, .int x3, .int x4, .int x5, .int v1] [] μ3
      refine run_ok (pc' := 36) [(.iload 4, 0, 0, 0), (.iconst 1, 0, 0, 0), (.iload 5, 0, 0, 0), (.ishl, 0, 0, 0), (.ior, 0, 0, 0), (.istore 4, 0, 0, 0), (.iinc 5 1, 0, 0, 0), (.goto (-53), 0, 0, 0)] _ _ _ _ (by decide +kernel) ?_
      show G Γ m_FB_keep (d + 1) (0, 0) Q 36 [.ref r0, jk, .int x2, .int x3, .int (x4 ||| ((w 1) <<< (x5 &&& 31))), .int (x5 + w 1), .int v1] [] μ3
      exact g_wk (ls' := [.ref r0, jk, .int x2, .int x3, .int (x4 ||| ((w 1) <<< (x5 &&& 31))), .int (x5 + w 1)]) ⟨Or.inr rfl, Or.inl rfl, Or.inr rfl, Or.inr rfl, Or.inr rfl, Or.inr rfl, trivial⟩ h
/-! FrostBox spans(II)I -/
set_option maxRecDepth 100000 in
theorem lk_10_382 : LkV 10 382 m_Ho_portionsThatWeigh 2 := ⟨lc_Ho_portionsThatWeigh, lwG_in (List.mem_of_getElem? (i := 984) rfl) rfl, lwG_in (List.mem_of_getElem? (i := 985) rfl) rfl, lwG_in (List.mem_of_getElem? (i := 986) rfl) rfl⟩
set_option maxRecDepth 100000 in
theorem lk_10_200 : LkV 10 200 m_FB_weightOf 1 := ⟨lc_FB_weightOf, lwG_in (List.mem_of_getElem? (i := 980) rfl) rfl, lwG_in (List.mem_of_getElem? (i := 982) rfl) rfl, lwG_in (List.mem_of_getElem? (i := 45) rfl) rfl⟩
set_option maxRecDepth 100000 in
theorem B_FB_spans_0 {Γ : XG} {d : Nat} {Q : Option Value → XM → Prop} {r0 : Nat} {x1 x2 : Int32} {μ : XM} (o_r0_10 : ob μ r0 10) (h : Call Γ m_FB_isKind d [.ref r0, .int x1] μ (KI (fun v1 μ1 => ((v1 = w 0 → Q (some (.int (w (-1)))) μ1) ∧ (¬ v1 = w 0 → ((x2 < w 0 → Q (some (.int (w (-1)))) μ1) ∧ (¬ x2 < w 0 → ((w 1 < x2 → Q (some (.int (w (-1)))) μ1) ∧ (¬ w 1 < x2 → G Γ m_FB_spans (d + 1) (0, 0) Q 24 [.ref r0, .int x1, .int x2, .int (w 0), .int (w 0)] [] μ1))))))))) : G Γ m_FB_spans (d + 1) (0, 0) Q 0 [.ref r0, .int x1, .int x2] [] μ := by
  refine run_ok (pc' := 2) [(.aload_n 0, 0, 0, 0), (.iload_n 1, 0, 0, 0)] _ _ _ _ (by decide +kernel) ?_
  show G Γ m_FB_spans (d + 1) (0, 0) Q 2 [.ref r0, .int x1, .int x2] [.int x1, .ref r0] μ
  refine g_invV (M' := m_FB_isKind) (b1 := 0) (b2 := 0) (As := [.int x1]) (a := r0) (st := []) lk_10_169 (by decide +kernel) rfl (dk_FB_isKind d) (Nat.le_of_ble_eq_true rfl) (Or.inl ⟨10, o_r0_10, rfl⟩) h ?_
  rintro _ μ1 ⟨v1, rfl, h⟩ hn1
  show G Γ m_FB_spans (d + 1) (0, 0) Q 5 [.ref r0, .int x1, .int x2] [.int v1] μ1
  refine g_ifz_eq (pc' := 17) (off := 12) (by decide) (by decide +kernel) (fun hc => ?_) (fun hc => ?_)
  · replace h := h.1 hc
    show G Γ m_FB_spans (d + 1) (0, 0) Q 17 [.ref r0, .int x1, .int x2] [] μ1
    refine run_ok (pc' := 18) [(.iconst (-1), 0, 0, 0)] _ _ _ _ (by decide +kernel) ?_
    show G Γ m_FB_spans (d + 1) (0, 0) Q 18 [.ref r0, .int x1, .int x2] [.int (w (-1))] μ1
    exact g_reti (by decide +kernel) rfl h
  · replace h := h.2 hc
    show G Γ m_FB_spans (d + 1) (0, 0) Q 8 [.ref r0, .int x1, .int x2] [] μ1
    refine run_ok (pc' := 9) [(.iload_n 2, 0, 0, 0)] _ _ _ _ (by decide +kernel) ?_
    show G Γ m_FB_spans (d + 1) (0, 0) Q 9 [.ref r0, .int x1, .int x2] [.int x2] μ1
    refine g_ifz_lt (pc' := 17) (off := 8) (by decide) (by decide +kernel) (fun hc => ?_) (fun hc => ?_)
    · replace h := h.1 hc
      show G Γ m_FB_spans (d + 1) (0, 0) Q 17 [.ref r0, .int x1, .int x2] [] μ1
      refine run_ok (pc' := 18) [(.iconst (-1), 0, 0, 0)] _ _ _ _ (by decide +kernel) ?_
      show G Γ m_FB_spans (d + 1) (0, 0) Q 18 [.ref r0, .int x1, .int x2] [.int (w (-1))] μ1
      exact g_reti (by decide +kernel) rfl h
    · replace h := h.2 hc
      show G Γ m_FB_spans (d + 1) (0, 0) Q 12 [.ref r0, .int x1, .int x2] [] μ1
      refine run_ok (pc' := 14) [(.iload_n 2, 0, 0, 0), (.iconst 1, 0, 0, 0)] _ _ _ _ (by decide +kernel) ?_
      show G Γ m_FB_spans (d + 1) (0, 0) Q 14 [.ref r0, .int x1, .int x2] [.int (w 1), .int x2] μ1
      refine g_icmp_le (pc' := 19) (off := 5) (by decide) (by decide +kernel) (fun hc => ?_) (fun hc => ?_)
      · replace h := h.2 hc
        show G Γ m_FB_spans (d + 1) (0, 0) Q 19 [.ref r0, .int x1, .int x2] [] μ1
        refine run_ok (pc' := 24) [(.iconst 0, 0, 0, 0), (.istore_n 3, 0, 0, 0), (.iconst 0, 0, 0, 0), (.istore 4, 0, 0, 0)] _ _ _ _ (by decide +kernel) ?_
        show G Γ m_FB_spans (d + 1) (0, 0) Q 24 [.ref r0, .int x1, .int x2, .int (w 0), .int (w 0)] [] μ1
        exact h
      · replace h := h.1 hc
        show G Γ m_FB_spans (d + 1) (0, 0) Q 17 [.ref r0, .int x1, .int x2] [] μ1
        refine run_ok (pc' := 18) [(.iconst (-1), 0, 0, 0)] _ _ _ _ (by decide +kernel) ?_
        show G Γ m_FB_spans (d + 1) (0, 0) Q 18 [.ref r0, .int x1, .int x2] [.int (w (-1))] μ1
        exact g_reti (by decide +kernel) rfl h
set_option maxRecDepth 100000 in
theorem B_FB_spans_24 {Γ : XG} {d : Nat} {Q : Option Value → XM → Prop} {r0 r0_9 : Nat} {x1 x2 x3 x4 : Int32} {μ : XM} (o_r0_10 : ob μ r0 10) (e_r0_9 : xR μ r0 9 = some r0_9) (o_r0_9_6 : ob μ r0_9 6) (h : ((x4 < xI μ r0_9 4 → Call Γ m_Pi_hasLabel d [.ref r0_9, .int x4] μ (KI (fun v1 μ1 => ((v1 = w 0 → ((x2 = w 1 → ∃ a2, xR μ1 r0 1 = some a2 ∧ ob μ1 a2 1 ∧ ∃ a3, xR μ1 a2 1 = some a3 ∧ xR μ1 r0 9 = some r0_9 ∧ ∃ a5, xR μ1 r0_9 0 = some a5 ∧ inb μ1 0 a5 x4 ∧ inb μ1 8 a3 (xI μ1 a5 x4.toNatClampNeg) ∧ ∃ a7, xR μ1 a3 (xI μ1 a5 x4.toNatClampNeg).toNatClampNeg = some a7 ∧ inb μ1 0 a7 (w 0) ∧ inb μ1 8 a3 x1 ∧ ∃ a9, xR μ1 a3 x1.toNatClampNeg = some a9 ∧ inb μ1 0 a9 (w 0) ∧ ((xI μ1 a7 (w 0).toNatClampNeg = xI μ1 a9 (w 0).toNatClampNeg → Call Γ m_FB_weightOf d [.ref r0, .int x4] μ1 (KI (fun v11 μ11 => Call Γ m_Ho_portionsThatWeigh d [.ref a2, .int x1, .int v11] μ11 (KI (fun v12 μ12 => G Γ m_FB_spans (d + 1) (0, 0) Q 24 [.ref r0, .int x1, .int x2, .int (x3 + (jmax (w 0) v12)), .int (x4 + w 1)] [] μ12))))) ∧ (¬ xI μ1 a7 (w 0).toNatClampNeg = xI μ1 a9 (w 0).toNatClampNeg → G Γ m_FB_spans (d + 1) (0, 0) Q 24 [.ref r0, .int x1, .int x2, .int x3, .int (x4 + w 1)] [] μ1))) ∧ (¬ x2 = w 1 → G Γ m_FB_spans (d + 1) (0, 0) Q 24 [.ref r0, .int x1, .int x2, .int x3, .int (x4 + w 1)] [] μ1))) ∧ (¬ v1 = w 0 → xR μ1 r0 9 = some r0_9 ∧ ∃ a14, xR μ1 r0_9 0 = some a14 ∧ inb μ1 0 a14 x4 ∧ ((xI μ1 a14 x4.toNatClampNeg = x1 → ∃ a16, xR μ1 r0_9 1 = some a16 ∧ inb μ1 0 a16 x4 ∧ G Γ m_FB_spans (d + 1) (0, 0) Q 24 [.ref r0, .int x1, .int x2, .int (x3 + (xI μ1 a16 x4.toNatClampNeg)), .int (x4 + w 1)] [] μ1) ∧ (¬ xI μ1 a14 x4.toNatClampNeg = x1 → G Γ m_FB_spans (d + 1) (0, 0) Q 24 [.ref r0, .int x1, .int x2, .int (x3 + (w 0)), .int (x4 + w 1)] [] μ1))))))) ∧ (¬ x4 < xI μ r0_9 4 → Q (some (.int x3)) μ))) : G Γ m_FB_spans (d + 1) (0, 0) Q 24 [.ref r0, .int x1, .int x2, .int x3, .int x4] [] μ := by
  refine run_ok (pc' := 33) [(.iload 4, 0, 0, 0), (.aload_n 0, 0, 0, 0), (.getfield 48, 10, 9, 2), (.getfield 223, 6, 4, 0)] _ _ _ _ (by decide +kernel) ?_
  show _ ∧ (∃ _, _ ∧ (_ ∧ (_)))
  refine ⟨o_r0_10, r0_9, e_r0_9, o_r0_9_6, ?_⟩
  show G Γ m_FB_spans (d + 1) (0, 0) Q 33 [.ref r0, .int x1, .int x2, .int x3, .int x4] [.int (xI μ r0_9 4), .int x4] μ
  refine g_icmp_ge (pc' := 148) (off := 115) (by decide) (by decide +kernel) (fun hc => ?_) (fun hc => ?_)
  · replace h := h.2 hc
    show G Γ m_FB_spans (d + 1) (0, 0) Q 148 [.ref r0, .int x1, .int x2, .int x3, .int x4] [] μ
    refine run_ok (pc' := 149) [(.iload_n 3, 0, 0, 0)] _ _ _ _ (by decide +kernel) ?_
    show G Γ m_FB_spans (d + 1) (0, 0) Q 149 [.ref r0, .int x1, .int x2, .int x3, .int x4] [.int x3] μ
    exact g_reti (by decide +kernel) rfl h
  · replace h := h.1 hc
    show G Γ m_FB_spans (d + 1) (0, 0) Q 36 [.ref r0, .int x1, .int x2, .int x3, .int x4] [] μ
    refine run_ok (pc' := 42) [(.aload_n 0, 0, 0, 0), (.getfield 48, 10, 9, 2), (.iload 4, 0, 0, 0)] _ _ _ _ (by decide +kernel) ?_
    show _ ∧ (∃ _, _ ∧ (_))
    refine ⟨o_r0_10, r0_9, e_r0_9, ?_⟩
    show G Γ m_FB_spans (d + 1) (0, 0) Q 42 [.ref r0, .int x1, .int x2, .int x3, .int x4] [.int x4, .ref r0_9] μ
    refine g_invV (M' := m_Pi_hasLabel) (b1 := 0) (b2 := 0) (As := [.int x4]) (a := r0_9) (st := []) lk_10_193 (by decide +kernel) rfl (dk_Pi_hasLabel d) (Nat.le_of_ble_eq_true rfl) (Or.inl ⟨6, o_r0_9_6, rfl⟩) h ?_
    rintro _ μ1 ⟨v1, rfl, h⟩ hn1
    show G Γ m_FB_spans (d + 1) (0, 0) Q 45 [.ref r0, .int x1, .int x2, .int x3, .int x4] [.int v1] μ1
    refine g_ifz_eq (pc' := 82) (off := 37) (by decide) (by decide +kernel) (fun hc => ?_) (fun hc => ?_)
    · replace h := h.1 hc
      show G Γ m_FB_spans (d + 1) (0, 0) Q 82 [.ref r0, .int x1, .int x2, .int x3, .int x4] [] μ1
      refine run_ok (pc' := 84) [(.iload_n 2, 0, 0, 0), (.iconst 1, 0, 0, 0)] _ _ _ _ (by decide +kernel) ?_
      show G Γ m_FB_spans (d + 1) (0, 0) Q 84 [.ref r0, .int x1, .int x2, .int x3, .int x4] [.int (w 1), .int x2] μ1
      refine g_icmp_ne (pc' := 142) (off := 58) (by decide) (by decide +kernel) (fun hc => ?_) (fun hc => ?_)
      · replace h := h.2 hc
        show G Γ m_FB_spans (d + 1) (0, 0) Q 142 [.ref r0, .int x1, .int x2, .int x3, .int x4] [] μ1
        refine run_ok (pc' := 24) [(.iinc 4 1, 0, 0, 0), (.goto (-121), 0, 0, 0)] _ _ _ _ (by decide +kernel) ?_
        show G Γ m_FB_spans (d + 1) (0, 0) Q 24 [.ref r0, .int x1, .int x2, .int x3, .int (x4 + w 1)] [] μ1
        exact h
      · replace h := h.1 hc
        show G Γ m_FB_spans (d + 1) (0, 0) Q 87 [.ref r0, .int x1, .int x2, .int x3, .int x4] [] μ1
        obtain ⟨a2, ea2, h⟩ := h
        obtain ⟨o_a2_1, h⟩ := h
        obtain ⟨a3, ea3, h⟩ := h
        obtain ⟨ea4, h⟩ := h
        obtain ⟨a5, ea5, h⟩ := h
        obtain ⟨ib6, h⟩ := h
        obtain ⟨ib7, h⟩ := h
        obtain ⟨a7, ea7, h⟩ := h
        obtain ⟨ib8, h⟩ := h
        obtain ⟨ib9, h⟩ := h
        obtain ⟨a9, ea9, h⟩ := h
        obtain ⟨ib10, h⟩ := h
        refine run_ok (pc' := 118) [(.aload_n 0, 0, 0, 0), (.getfield 19, 10, 1, 2), (.getfield 172, 1, 1, 2), (.aload_n 0, 0, 0, 0), (.getfield 48, 10, 9, 2), (.getfield 185, 6, 0, 2), (.iload 4, 0, 0, 0), (.iaload, 0, 0, 0), (.aaload, 8, 0, 0), (.iconst 0, 0, 0, 0), (.iaload, 0, 0, 0), (.aload_n 0, 0, 0, 0), (.getfield 19, 10, 1, 2), (.getfield 172, 1, 1, 2), (.iload_n 1, 0, 0, 0), (.aaload, 8, 0, 0), (.iconst 0, 0, 0, 0), (.iaload, 0, 0, 0)] _ _ _ _ (by decide +kernel) ?_
        show _ ∧ (∃ _, _ ∧ (_ ∧ (∃ _, _ ∧ (_ ∧ (∃ _, _ ∧ (_ ∧ (∃ _, _ ∧ (_ ∧ (_ ∧ (∃ _, _ ∧ (_ ∧ (_ ∧ (∃ _, _ ∧ (_ ∧ (∃ _, _ ∧ (_ ∧ (∃ _, _ ∧ (_ ∧ (_)))))))))))))))))))
        refine ⟨((o_r0_10).mono hn1), a2, ea2, o_a2_1, a3, ea3, ((o_r0_10).mono hn1), r0_9, ea4, ((o_r0_9_6).mono hn1), a5, ea5, ib6, ib7, a7, ea7, ib8, ((o_r0_10).mono hn1), a2, ea2, o_a2_1, a3, ea3, ib9, a9, ea9, ib10, ?_⟩
        show G Γ m_FB_spans (d + 1) (0, 0) Q 118 [.ref r0, .int x1, .int x2, .int x3, .int x4] [.int (xI μ1 a9 (w 0).toNatClampNeg), .int (xI μ1 a7 (w 0).toNatClampNeg)] μ1
        refine g_icmp_ne (pc' := 142) (off := 24) (by decide) (by decide +kernel) (fun hc => ?_) (fun hc => ?_)
        · replace h := h.2 hc
          show G Γ m_FB_spans (d + 1) (0, 0) Q 142 [.ref r0, .int x1, .int x2, .int x3, .int x4] [] μ1
          refine run_ok (pc' := 24) [(.iinc 4 1, 0, 0, 0), (.goto (-121), 0, 0, 0)] _ _ _ _ (by decide +kernel) ?_
          show G Γ m_FB_spans (d + 1) (0, 0) Q 24 [.ref r0, .int x1, .int x2, .int x3, .int (x4 + w 1)] [] μ1
          exact h
        · replace h := h.1 hc
          show G Γ m_FB_spans (d + 1) (0, 0) Q 121 [.ref r0, .int x1, .int x2, .int x3, .int x4] [] μ1
          refine run_ok (pc' := 131) [(.iload_n 3, 0, 0, 0), (.iconst 0, 0, 0, 0), (.aload_n 0, 0, 0, 0), (.getfield 19, 10, 1, 2), (.iload_n 1, 0, 0, 0), (.aload_n 0, 0, 0, 0), (.iload 4, 0, 0, 0)] _ _ _ _ (by decide +kernel) ?_
          show _ ∧ (∃ _, _ ∧ (_))
          refine ⟨((o_r0_10).mono hn1), a2, ea2, ?_⟩
          show G Γ m_FB_spans (d + 1) (0, 0) Q 131 [.ref r0, .int x1, .int x2, .int x3, .int x4] [.int x4, .ref r0, .int x1, .ref a2, .int (w 0), .int x3] μ1
          refine g_invV (M' := m_FB_weightOf) (b1 := 0) (b2 := 0) (As := [.int x4]) (a := r0) (st := [.int x1, .ref a2, .int (w 0), .int x3]) lk_10_200 (by decide +kernel) rfl (dk_FB_weightOf d) (Nat.le_of_ble_eq_true rfl) (Or.inl ⟨10, ((o_r0_10).mono hn1), rfl⟩) h ?_
          rintro _ μ11 ⟨v11, rfl, h⟩ hn11
          show G Γ m_FB_spans (d + 1) (0, 0) Q 134 [.ref r0, .int x1, .int x2, .int x3, .int x4] [.int v11, .int x1, .ref a2, .int (w 0), .int x3] μ11
          refine g_invV (M' := m_Ho_portionsThatWeigh) (b1 := 0) (b2 := 0) (As := [.int x1, .int v11]) (a := a2) (st := [.int (w 0), .int x3]) lk_10_382 (by decide +kernel) rfl (dk_Ho_portionsThatWeigh d) (Nat.le_of_ble_eq_true rfl) (Or.inl ⟨1, ((o_a2_1).mono hn11), rfl⟩) h ?_
          rintro _ μ12 ⟨v12, rfl, h⟩ hn12
          show G Γ m_FB_spans (d + 1) (0, 0) Q 137 [.ref r0, .int x1, .int x2, .int x3, .int x4] [.int v12, .int (w 0), .int x3] μ12
          refine g_maxI (i := 216) lm_10_216 (Nat.le_of_ble_eq_true rfl) (by decide +kernel) ?_
          show G Γ m_FB_spans (d + 1) (0, 0) Q 140 [.ref r0, .int x1, .int x2, .int x3, .int x4] [.int (jmax (w 0) v12), .int x3] μ12
          refine run_ok (pc' := 24) [(.iadd, 0, 0, 0), (.istore_n 3, 0, 0, 0), (.iinc 4 1, 0, 0, 0), (.goto (-121), 0, 0, 0)] _ _ _ _ (by decide +kernel) ?_
          show G Γ m_FB_spans (d + 1) (0, 0) Q 24 [.ref r0, .int x1, .int x2, .int (x3 + (jmax (w 0) v12)), .int (x4 + w 1)] [] μ12
          exact h
    · replace h := h.2 hc
      show G Γ m_FB_spans (d + 1) (0, 0) Q 48 [.ref r0, .int x1, .int x2, .int x3, .int x4] [] μ1
      obtain ⟨ea13, h⟩ := h
      obtain ⟨a14, ea14, h⟩ := h
      obtain ⟨ib15, h⟩ := h
      refine run_ok (pc' := 60) [(.iload_n 3, 0, 0, 0), (.aload_n 0, 0, 0, 0), (.getfield 48, 10, 9, 2), (.getfield 185, 6, 0, 2), (.iload 4, 0, 0, 0), (.iaload, 0, 0, 0), (.iload_n 1, 0, 0, 0)] _ _ _ _ (by decide +kernel) ?_
      show _ ∧ (∃ _, _ ∧ (_ ∧ (∃ _, _ ∧ (_ ∧ (_)))))
      refine ⟨((o_r0_10).mono hn1), r0_9, ea13, ((o_r0_9_6).mono hn1), a14, ea14, ib15, ?_⟩
      show G Γ m_FB_spans (d + 1) (0, 0) Q 60 [.ref r0, .int x1, .int x2, .int x3, .int x4] [.int x1, .int (xI μ1 a14 x4.toNatClampNeg), .int x3] μ1
      refine g_icmp_ne (pc' := 76) (off := 16) (by decide) (by decide +kernel) (fun hc => ?_) (fun hc => ?_)
      · replace h := h.2 hc
        show G Γ m_FB_spans (d + 1) (0, 0) Q 76 [.ref r0, .int x1, .int x2, .int x3, .int x4] [.int x3] μ1
        refine run_ok (pc' := 24) [(.iconst 0, 0, 0, 0), (.iadd, 0, 0, 0), (.istore_n 3, 0, 0, 0), (.goto 63, 0, 0, 0), (.iinc 4 1, 0, 0, 0), (.goto (-121), 0, 0, 0)] _ _ _ _ (by decide +kernel) ?_
        show G Γ m_FB_spans (d + 1) (0, 0) Q 24 [.ref r0, .int x1, .int x2, .int (x3 + (w 0)), .int (x4 + w 1)] [] μ1
        exact h
      · replace h := h.1 hc
        show G Γ m_FB_spans (d + 1) (0, 0) Q 63 [.ref r0, .int x1, .int x2, .int x3, .int x4] [.int x3] μ1
        obtain ⟨a16, ea16, h⟩ := h
        obtain ⟨ib17, h⟩ := h
        refine run_ok (pc' := 24) [(.aload_n 0, 0, 0, 0), (.getfield 48, 10, 9, 2), (.getfield 187, 6, 1, 2), (.iload 4, 0, 0, 0), (.iaload, 0, 0, 0), (.goto 4, 0, 0, 0), (.iadd, 0, 0, 0), (.istore_n 3, 0, 0, 0), (.goto 63, 0, 0, 0), (.iinc 4 1, 0, 0, 0), (.goto (-121), 0, 0, 0)] _ _ _ _ (by decide +kernel) ?_
        show _ ∧ (∃ _, _ ∧ (_ ∧ (∃ _, _ ∧ (_ ∧ (_)))))
        refine ⟨((o_r0_10).mono hn1), r0_9, ea13, ((o_r0_9_6).mono hn1), a16, ea16, ib17, ?_⟩
        show G Γ m_FB_spans (d + 1) (0, 0) Q 24 [.ref r0, .int x1, .int x2, .int (x3 + (xI μ1 a16 x4.toNatClampNeg)), .int (x4 + w 1)] [] μ1
        exact h
/-! FrostBox nameless()I -/
set_option maxRecDepth 100000 in
theorem B_FB_nameless_0 {Γ : XG} {d : Nat} {Q : Option Value → XM → Prop} {r0 : Nat} {μ : XM} (o_r0_10 : ob μ r0 10) (h : Call Γ m_FB_hasHouse d [.ref r0] μ (KI (fun v1 μ1 => ((v1 = w 0 → Q (some (.int (w (-1)))) μ1) ∧ (¬ v1 = w 0 → G Γ m_FB_nameless (d + 1) (0, 0) Q 13 [.ref r0, .int (w 0), .int (w 0)] [] μ1))))) : G Γ m_FB_nameless (d + 1) (0, 0) Q 0 [.ref r0] [] μ := by
  refine run_ok (pc' := 1) [(.aload_n 0, 0, 0, 0)] _ _ _ _ (by decide +kernel) ?_
  show G Γ m_FB_nameless (d + 1) (0, 0) Q 1 [.ref r0] [.ref r0] μ
  refine g_invV (M' := m_FB_hasHouse) (b1 := 0) (b2 := 0) (As := []) (a := r0) (st := []) lk_10_162 (by decide +kernel) rfl (dk_FB_hasHouse d) (Nat.le_of_ble_eq_true rfl) (Or.inl ⟨10, o_r0_10, rfl⟩) h ?_
  rintro _ μ1 ⟨v1, rfl, h⟩ hn1
  show G Γ m_FB_nameless (d + 1) (0, 0) Q 4 [.ref r0] [.int v1] μ1
  refine g_ifz_ne (pc' := 9) (off := 5) (by decide) (by decide +kernel) (fun hc => ?_) (fun hc => ?_)
  · replace h := h.2 hc
    show G Γ m_FB_nameless (d + 1) (0, 0) Q 9 [.ref r0] [] μ1
    refine run_ok (pc' := 13) [(.iconst 0, 0, 0, 0), (.istore_n 1, 0, 0, 0), (.iconst 0, 0, 0, 0), (.istore_n 2, 0, 0, 0)] _ _ _ _ (by decide +kernel) ?_
    show G Γ m_FB_nameless (d + 1) (0, 0) Q 13 [.ref r0, .int (w 0), .int (w 0)] [] μ1
    exact h
  · replace h := h.1 hc
    show G Γ m_FB_nameless (d + 1) (0, 0) Q 7 [.ref r0] [] μ1
    refine run_ok (pc' := 8) [(.iconst (-1), 0, 0, 0)] _ _ _ _ (by decide +kernel) ?_
    show G Γ m_FB_nameless (d + 1) (0, 0) Q 8 [.ref r0] [.int (w (-1))] μ1
    exact g_reti (by decide +kernel) rfl h
set_option maxRecDepth 100000 in
theorem B_FB_nameless_13 {Γ : XG} {d : Nat} {Q : Option Value → XM → Prop} {r0 r0_9 : Nat} {x1 x2 : Int32} {μ : XM} (o_r0_10 : ob μ r0 10) (e_r0_9 : xR μ r0 9 = some r0_9) (o_r0_9_6 : ob μ r0_9 6) (h : ((x2 < xI μ r0_9 4 → Call Γ m_Pi_indexOf d [.ref r0_9, .int x2] μ (KI (fun v1 μ1 => Call Γ m_Pi_hasLabel d [.ref r0_9, .int v1] μ1 (KI (fun v2 μ2 => ((v2 = w 0 → G Γ m_FB_nameless (d + 1) (0, 0) Q 13 [.ref r0, .int (x1 ||| ((w 1) <<< (x2 &&& 31))), .int (x2 + w 1)] [] μ2) ∧ (¬ v2 = w 0 → G Γ m_FB_nameless (d + 1) (0, 0) Q 13 [.ref r0, .int x1, .int (x2 + w 1)] [] μ2))))))) ∧ (¬ x2 < xI μ r0_9 4 → Q (some (.int x1)) μ))) : G Γ m_FB_nameless (d + 1) (0, 0) Q 13 [.ref r0, .int x1, .int x2] [] μ := by
  refine run_ok (pc' := 21) [(.iload_n 2, 0, 0, 0), (.aload_n 0, 0, 0, 0), (.getfield 48, 10, 9, 2), (.getfield 223, 6, 4, 0)] _ _ _ _ (by decide +kernel) ?_
  show _ ∧ (∃ _, _ ∧ (_ ∧ (_)))
  refine ⟨o_r0_10, r0_9, e_r0_9, o_r0_9_6, ?_⟩
  show G Γ m_FB_nameless (d + 1) (0, 0) Q 21 [.ref r0, .int x1, .int x2] [.int (xI μ r0_9 4), .int x2] μ
  refine g_icmp_ge (pc' := 54) (off := 33) (by decide) (by decide +kernel) (fun hc => ?_) (fun hc => ?_)
  · replace h := h.2 hc
    show G Γ m_FB_nameless (d + 1) (0, 0) Q 54 [.ref r0, .int x1, .int x2] [] μ
    refine run_ok (pc' := 55) [(.iload_n 1, 0, 0, 0)] _ _ _ _ (by decide +kernel) ?_
    show G Γ m_FB_nameless (d + 1) (0, 0) Q 55 [.ref r0, .int x1, .int x2] [.int x1] μ
    exact g_reti (by decide +kernel) rfl h
  · replace h := h.1 hc
    show G Γ m_FB_nameless (d + 1) (0, 0) Q 24 [.ref r0, .int x1, .int x2] [] μ
    refine run_ok (pc' := 33) [(.aload_n 0, 0, 0, 0), (.getfield 48, 10, 9, 2), (.aload_n 0, 0, 0, 0), (.getfield 48, 10, 9, 2), (.iload_n 2, 0, 0, 0)] _ _ _ _ (by decide +kernel) ?_
    show _ ∧ (∃ _, _ ∧ (_ ∧ (∃ _, _ ∧ (_))))
    refine ⟨o_r0_10, r0_9, e_r0_9, o_r0_10, r0_9, e_r0_9, ?_⟩
    show G Γ m_FB_nameless (d + 1) (0, 0) Q 33 [.ref r0, .int x1, .int x2] [.int x2, .ref r0_9, .ref r0_9] μ
    refine g_invV (M' := m_Pi_indexOf) (b1 := 0) (b2 := 0) (As := [.int x2]) (a := r0_9) (st := [.ref r0_9]) lk_10_182 (by decide +kernel) rfl (dk_Pi_indexOf d) (Nat.le_of_ble_eq_true rfl) (Or.inl ⟨6, o_r0_9_6, rfl⟩) h ?_
    rintro _ μ1 ⟨v1, rfl, h⟩ hn1
    show G Γ m_FB_nameless (d + 1) (0, 0) Q 36 [.ref r0, .int x1, .int x2] [.int v1, .ref r0_9] μ1
    refine g_invV (M' := m_Pi_hasLabel) (b1 := 0) (b2 := 0) (As := [.int v1]) (a := r0_9) (st := []) lk_10_193 (by decide +kernel) rfl (dk_Pi_hasLabel d) (Nat.le_of_ble_eq_true rfl) (Or.inl ⟨6, ((o_r0_9_6).mono hn1), rfl⟩) h ?_
    rintro _ μ2 ⟨v2, rfl, h⟩ hn2
    show G Γ m_FB_nameless (d + 1) (0, 0) Q 39 [.ref r0, .int x1, .int x2] [.int v2] μ2
    refine g_ifz_ne (pc' := 48) (off := 9) (by decide) (by decide +kernel) (fun hc => ?_) (fun hc => ?_)
    · replace h := h.2 hc
      show G Γ m_FB_nameless (d + 1) (0, 0) Q 48 [.ref r0, .int x1, .int x2] [] μ2
      refine run_ok (pc' := 13) [(.iinc 2 1, 0, 0, 0), (.goto (-38), 0, 0, 0)] _ _ _ _ (by decide +kernel) ?_
      show G Γ m_FB_nameless (d + 1) (0, 0) Q 13 [.ref r0, .int x1, .int (x2 + w 1)] [] μ2
      exact h
    · replace h := h.1 hc
      show G Γ m_FB_nameless (d + 1) (0, 0) Q 42 [.ref r0, .int x1, .int x2] [] μ2
      refine run_ok (pc' := 13) [(.iload_n 1, 0, 0, 0), (.iconst 1, 0, 0, 0), (.iload_n 2, 0, 0, 0), (.ishl, 0, 0, 0), (.ior, 0, 0, 0), (.istore_n 1, 0, 0, 0), (.iinc 2 1, 0, 0, 0), (.goto (-38), 0, 0, 0)] _ _ _ _ (by decide +kernel) ?_
      show G Γ m_FB_nameless (d + 1) (0, 0) Q 13 [.ref r0, .int (x1 ||| ((w 1) <<< (x2 &&& 31))), .int (x2 + w 1)] [] μ2
      exact h
/-! FrostBox doubles(I)I -/
set_option maxRecDepth 100000 in
theorem lk_10_385 : LkV 10 385 m_FB_looksAlike 2 := ⟨lc_FB_looksAlike, lwG_in (List.mem_of_getElem? (i := 996) rfl) rfl, lwG_in (List.mem_of_getElem? (i := 998) rfl) rfl, lwG_in (List.mem_of_getElem? (i := 46) rfl) rfl⟩
set_option maxRecDepth 100000 in
theorem B_FB_doubles_0 {Γ : XG} {d : Nat} {Q : Option Value → XM → Prop} {r0 : Nat} {x1 : Int32} {μ : XM} (o_r0_10 : ob μ r0 10) (h : Call Γ m_FB_hasHouse d [.ref r0] μ (KI (fun v1 μ1 => ((v1 = w 0 → Q (some (.int (w (-1)))) μ1) ∧ (¬ v1 = w 0 → ((x1 < w (-1) → Q (some (.int (w (-1)))) μ1) ∧ (¬ x1 < w (-1) → G Γ m_FB_doubles (d + 1) (0, 0) Q 18 [.ref r0, .int x1, .int (w 0), .int (w 0)] [] μ1))))))) : G Γ m_FB_doubles (d + 1) (0, 0) Q 0 [.ref r0, .int x1] [] μ := by
  refine run_ok (pc' := 1) [(.aload_n 0, 0, 0, 0)] _ _ _ _ (by decide +kernel) ?_
  show G Γ m_FB_doubles (d + 1) (0, 0) Q 1 [.ref r0, .int x1] [.ref r0] μ
  refine g_invV (M' := m_FB_hasHouse) (b1 := 0) (b2 := 0) (As := []) (a := r0) (st := []) lk_10_162 (by decide +kernel) rfl (dk_FB_hasHouse d) (Nat.le_of_ble_eq_true rfl) (Or.inl ⟨10, o_r0_10, rfl⟩) h ?_
  rintro _ μ1 ⟨v1, rfl, h⟩ hn1
  show G Γ m_FB_doubles (d + 1) (0, 0) Q 4 [.ref r0, .int x1] [.int v1] μ1
  refine g_ifz_eq (pc' := 12) (off := 8) (by decide) (by decide +kernel) (fun hc => ?_) (fun hc => ?_)
  · replace h := h.1 hc
    show G Γ m_FB_doubles (d + 1) (0, 0) Q 12 [.ref r0, .int x1] [] μ1
    refine run_ok (pc' := 13) [(.iconst (-1), 0, 0, 0)] _ _ _ _ (by decide +kernel) ?_
    show G Γ m_FB_doubles (d + 1) (0, 0) Q 13 [.ref r0, .int x1] [.int (w (-1))] μ1
    exact g_reti (by decide +kernel) rfl h
  · replace h := h.2 hc
    show G Γ m_FB_doubles (d + 1) (0, 0) Q 7 [.ref r0, .int x1] [] μ1
    refine run_ok (pc' := 9) [(.iload_n 1, 0, 0, 0), (.iconst (-1), 0, 0, 0)] _ _ _ _ (by decide +kernel) ?_
    show G Γ m_FB_doubles (d + 1) (0, 0) Q 9 [.ref r0, .int x1] [.int (w (-1)), .int x1] μ1
    refine g_icmp_ge (pc' := 14) (off := 5) (by decide) (by decide +kernel) (fun hc => ?_) (fun hc => ?_)
    · replace h := h.2 hc
      show G Γ m_FB_doubles (d + 1) (0, 0) Q 14 [.ref r0, .int x1] [] μ1
      refine run_ok (pc' := 18) [(.iconst 0, 0, 0, 0), (.istore_n 2, 0, 0, 0), (.iconst 0, 0, 0, 0), (.istore_n 3, 0, 0, 0)] _ _ _ _ (by decide +kernel) ?_
      show G Γ m_FB_doubles (d + 1) (0, 0) Q 18 [.ref r0, .int x1, .int (w 0), .int (w 0)] [] μ1
      exact h
    · replace h := h.1 hc
      show G Γ m_FB_doubles (d + 1) (0, 0) Q 12 [.ref r0, .int x1] [] μ1
      refine run_ok (pc' := 13) [(.iconst (-1), 0, 0, 0)] _ _ _ _ (by decide +kernel) ?_
      show G Γ m_FB_doubles (d + 1) (0, 0) Q 13 [.ref r0, .int x1] [.int (w (-1))] μ1
      exact g_reti (by decide +kernel) rfl h
set_option maxRecDepth 100000 in
theorem B_FB_doubles_18 {Γ : XG} {d : Nat} {Q : Option Value → XM → Prop} {r0 r0_9 : Nat} {x1 x2 x3 : Int32} {μ : XM} (o_r0_10 : ob μ r0 10) (e_r0_9 : xR μ r0 9 = some r0_9) (o_r0_9_6 : ob μ r0_9 6) (h : ((x3 < xI μ r0_9 4 → G Γ m_FB_doubles (d + 1) (0, 0) Q 34 [.ref r0, .int x1, .int x2, .int x3, .int (x3 + (w 1))] [] μ) ∧ (¬ x3 < xI μ r0_9 4 → ((x1 = w (-1) → Q (some (.int x2)) μ) ∧ (¬ x1 = w (-1) → Q (some (.int (w (-1)))) μ))))) : G Γ m_FB_doubles (d + 1) (0, 0) Q 18 [.ref r0, .int x1, .int x2, .int x3] [] μ := by
  refine run_ok (pc' := 26) [(.iload_n 3, 0, 0, 0), (.aload_n 0, 0, 0, 0), (.getfield 48, 10, 9, 2), (.getfield 223, 6, 4, 0)] _ _ _ _ (by decide +kernel) ?_
  show _ ∧ (∃ _, _ ∧ (_ ∧ (_)))
  refine ⟨o_r0_10, r0_9, e_r0_9, o_r0_9_6, ?_⟩
  show G Γ m_FB_doubles (d + 1) (0, 0) Q 26 [.ref r0, .int x1, .int x2, .int x3] [.int (xI μ r0_9 4), .int x3] μ
  refine g_icmp_ge (pc' := 101) (off := 75) (by decide) (by decide +kernel) (fun hc => ?_) (fun hc => ?_)
  · replace h := h.2 hc
    show G Γ m_FB_doubles (d + 1) (0, 0) Q 101 [.ref r0, .int x1, .int x2, .int x3] [] μ
    refine run_ok (pc' := 103) [(.iload_n 1, 0, 0, 0), (.iconst (-1), 0, 0, 0)] _ _ _ _ (by decide +kernel) ?_
    show G Γ m_FB_doubles (d + 1) (0, 0) Q 103 [.ref r0, .int x1, .int x2, .int x3] [.int (w (-1)), .int x1] μ
    refine g_icmp_ne (pc' := 110) (off := 7) (by decide) (by decide +kernel) (fun hc => ?_) (fun hc => ?_)
    · replace h := h.2 hc
      show G Γ m_FB_doubles (d + 1) (0, 0) Q 110 [.ref r0, .int x1, .int x2, .int x3] [] μ
      refine run_ok (pc' := 111) [(.iconst (-1), 0, 0, 0)] _ _ _ _ (by decide +kernel) ?_
      show G Γ m_FB_doubles (d + 1) (0, 0) Q 111 [.ref r0, .int x1, .int x2, .int x3] [.int (w (-1))] μ
      exact g_reti (by decide +kernel) rfl h
    · replace h := h.1 hc
      show G Γ m_FB_doubles (d + 1) (0, 0) Q 106 [.ref r0, .int x1, .int x2, .int x3] [] μ
      refine run_ok (pc' := 111) [(.iload_n 2, 0, 0, 0), (.goto 4, 0, 0, 0)] _ _ _ _ (by decide +kernel) ?_
      show G Γ m_FB_doubles (d + 1) (0, 0) Q 111 [.ref r0, .int x1, .int x2, .int x3] [.int x2] μ
      exact g_reti (by decide +kernel) rfl h
  · replace h := h.1 hc
    show G Γ m_FB_doubles (d + 1) (0, 0) Q 29 [.ref r0, .int x1, .int x2, .int x3] [] μ
    refine run_ok (pc' := 34) [(.iload_n 3, 0, 0, 0), (.iconst 1, 0, 0, 0), (.iadd, 0, 0, 0), (.istore 4, 0, 0, 0)] _ _ _ _ (by decide +kernel) ?_
    show G Γ m_FB_doubles (d + 1) (0, 0) Q 34 [.ref r0, .int x1, .int x2, .int x3, .int (x3 + (w 1))] [] μ
    exact h
set_option maxRecDepth 100000 in
theorem B_FB_doubles_34 {Γ : XG} {d : Nat} {Q : Option Value → XM → Prop} {r0 r0_9 : Nat} {x1 x2 x3 x4 : Int32} {μ : XM} (o_r0_10 : ob μ r0 10) (e_r0_9 : xR μ r0 9 = some r0_9) (o_r0_9_6 : ob μ r0_9 6) (h : ((x4 < xI μ r0_9 4 → Call Γ m_Pi_indexOf d [.ref r0_9, .int x3] μ (KI (fun v1 μ1 => xR μ1 r0 9 = some r0_9 ∧ Call Γ m_Pi_indexOf d [.ref r0_9, .int x4] μ1 (KI (fun v3 μ3 => Call Γ m_FB_looksAlike d [.ref r0, .int v1, .int v3] μ3 (KI (fun v4 μ4 => ((v4 = w 0 → G Γ m_FB_doubles (d + 1) (0, 0) Q 34 [.ref r0, .int x1, .int x2, .int x3, .int (x4 + w 1)] [] μ4) ∧ (¬ v4 = w 0 → ((x2 = x1 → Q (some (.int (((w 10) * x3) + x4))) μ4) ∧ (¬ x2 = x1 → G Γ m_FB_doubles (d + 1) (0, 0) Q 34 [.ref r0, .int x1, .int (x2 + w 1), .int x3, .int (x4 + w 1)] [] μ4))))))))))) ∧ (¬ x4 < xI μ r0_9 4 → G Γ m_FB_doubles (d + 1) (0, 0) Q 18 [.ref r0, .int x1, .int x2, .int (x3 + w 1)] [] μ))) : G Γ m_FB_doubles (d + 1) (0, 0) Q 34 [.ref r0, .int x1, .int x2, .int x3, .int x4] [] μ := by
  refine run_ok (pc' := 43) [(.iload 4, 0, 0, 0), (.aload_n 0, 0, 0, 0), (.getfield 48, 10, 9, 2), (.getfield 223, 6, 4, 0)] _ _ _ _ (by decide +kernel) ?_
  show _ ∧ (∃ _, _ ∧ (_ ∧ (_)))
  refine ⟨o_r0_10, r0_9, e_r0_9, o_r0_9_6, ?_⟩
  show G Γ m_FB_doubles (d + 1) (0, 0) Q 43 [.ref r0, .int x1, .int x2, .int x3, .int x4] [.int (xI μ r0_9 4), .int x4] μ
  refine g_icmp_ge (pc' := 95) (off := 52) (by decide) (by decide +kernel) (fun hc => ?_) (fun hc => ?_)
  · replace h := h.2 hc
    show G Γ m_FB_doubles (d + 1) (0, 0) Q 95 [.ref r0, .int x1, .int x2, .int x3, .int x4] [] μ
    refine run_ok (pc' := 18) [(.iinc 3 1, 0, 0, 0), (.goto (-80), 0, 0, 0)] _ _ _ _ (by decide +kernel) ?_
    show G Γ m_FB_doubles (d + 1) (0, 0) Q 18 [.ref r0, .int x1, .int x2, .int (x3 + w 1), .int x4] [] μ
    exact g_wk (ls' := [.ref r0, .int x1, .int x2, .int (x3 + w 1)]) ⟨Or.inr rfl, Or.inr rfl, Or.inr rfl, Or.inr rfl, trivial⟩ h
  · replace h := h.1 hc
    show G Γ m_FB_doubles (d + 1) (0, 0) Q 46 [.ref r0, .int x1, .int x2, .int x3, .int x4] [] μ
    refine run_ok (pc' := 52) [(.aload_n 0, 0, 0, 0), (.aload_n 0, 0, 0, 0), (.getfield 48, 10, 9, 2), (.iload_n 3, 0, 0, 0)] _ _ _ _ (by decide +kernel) ?_
    show _ ∧ (∃ _, _ ∧ (_))
    refine ⟨o_r0_10, r0_9, e_r0_9, ?_⟩
    show G Γ m_FB_doubles (d + 1) (0, 0) Q 52 [.ref r0, .int x1, .int x2, .int x3, .int x4] [.int x3, .ref r0_9, .ref r0] μ
    refine g_invV (M' := m_Pi_indexOf) (b1 := 0) (b2 := 0) (As := [.int x3]) (a := r0_9) (st := [.ref r0]) lk_10_182 (by decide +kernel) rfl (dk_Pi_indexOf d) (Nat.le_of_ble_eq_true rfl) (Or.inl ⟨6, o_r0_9_6, rfl⟩) h ?_
    rintro _ μ1 ⟨v1, rfl, h⟩ hn1
    show G Γ m_FB_doubles (d + 1) (0, 0) Q 55 [.ref r0, .int x1, .int x2, .int x3, .int x4] [.int v1, .ref r0] μ1
    obtain ⟨ea2, h⟩ := h
    refine run_ok (pc' := 61) [(.aload_n 0, 0, 0, 0), (.getfield 48, 10, 9, 2), (.iload 4, 0, 0, 0)] _ _ _ _ (by decide +kernel) ?_
    show _ ∧ (∃ _, _ ∧ (_))
    refine ⟨((o_r0_10).mono hn1), r0_9, ea2, ?_⟩
    show G Γ m_FB_doubles (d + 1) (0, 0) Q 61 [.ref r0, .int x1, .int x2, .int x3, .int x4] [.int x4, .ref r0_9, .int v1, .ref r0] μ1
    refine g_invV (M' := m_Pi_indexOf) (b1 := 0) (b2 := 0) (As := [.int x4]) (a := r0_9) (st := [.int v1, .ref r0]) lk_10_182 (by decide +kernel) rfl (dk_Pi_indexOf d) (Nat.le_of_ble_eq_true rfl) (Or.inl ⟨6, ((o_r0_9_6).mono hn1), rfl⟩) h ?_
    rintro _ μ3 ⟨v3, rfl, h⟩ hn3
    show G Γ m_FB_doubles (d + 1) (0, 0) Q 64 [.ref r0, .int x1, .int x2, .int x3, .int x4] [.int v3, .int v1, .ref r0] μ3
    refine g_invV (M' := m_FB_looksAlike) (b1 := 0) (b2 := 0) (As := [.int v1, .int v3]) (a := r0) (st := []) lk_10_385 (by decide +kernel) rfl (dk_FB_looksAlike d) (Nat.le_of_ble_eq_true rfl) (Or.inl ⟨10, (((o_r0_10).mono hn1).mono hn3), rfl⟩) h ?_
    rintro _ μ4 ⟨v4, rfl, h⟩ hn4
    show G Γ m_FB_doubles (d + 1) (0, 0) Q 67 [.ref r0, .int x1, .int x2, .int x3, .int x4] [.int v4] μ4
    refine g_ifz_ne (pc' := 73) (off := 6) (by decide) (by decide +kernel) (fun hc => ?_) (fun hc => ?_)
    · replace h := h.2 hc
      show G Γ m_FB_doubles (d + 1) (0, 0) Q 73 [.ref r0, .int x1, .int x2, .int x3, .int x4] [] μ4
      refine run_ok (pc' := 75) [(.iload_n 2, 0, 0, 0), (.iload_n 1, 0, 0, 0)] _ _ _ _ (by decide +kernel) ?_
      show G Γ m_FB_doubles (d + 1) (0, 0) Q 75 [.ref r0, .int x1, .int x2, .int x3, .int x4] [.int x1, .int x2] μ4
      refine g_icmp_ne (pc' := 86) (off := 11) (by decide) (by decide +kernel) (fun hc => ?_) (fun hc => ?_)
      · replace h := h.2 hc
        show G Γ m_FB_doubles (d + 1) (0, 0) Q 86 [.ref r0, .int x1, .int x2, .int x3, .int x4] [] μ4
        refine run_ok (pc' := 34) [(.iinc 2 1, 0, 0, 0), (.iinc 4 1, 0, 0, 0), (.goto (-58), 0, 0, 0)] _ _ _ _ (by decide +kernel) ?_
        show G Γ m_FB_doubles (d + 1) (0, 0) Q 34 [.ref r0, .int x1, .int (x2 + w 1), .int x3, .int (x4 + w 1)] [] μ4
        exact h
      · replace h := h.1 hc
        show G Γ m_FB_doubles (d + 1) (0, 0) Q 78 [.ref r0, .int x1, .int x2, .int x3, .int x4] [] μ4
        refine run_ok (pc' := 85) [(.bipush 10, 0, 0, 0), (.iload_n 3, 0, 0, 0), (.imul, 0, 0, 0), (.iload 4, 0, 0, 0), (.iadd, 0, 0, 0)] _ _ _ _ (by decide +kernel) ?_
        show G Γ m_FB_doubles (d + 1) (0, 0) Q 85 [.ref r0, .int x1, .int x2, .int x3, .int x4] [.int (((w 10) * x3) + x4)] μ4
        exact g_reti (by decide +kernel) rfl h
    · replace h := h.1 hc
      show G Γ m_FB_doubles (d + 1) (0, 0) Q 70 [.ref r0, .int x1, .int x2, .int x3, .int x4] [] μ4
      refine run_ok (pc' := 34) [(.goto 19, 0, 0, 0), (.iinc 4 1, 0, 0, 0), (.goto (-58), 0, 0, 0)] _ _ _ _ (by decide +kernel) ?_
      show G Γ m_FB_doubles (d + 1) (0, 0) Q 34 [.ref r0, .int x1, .int x2, .int x3, .int (x4 + w 1)] [] μ4
      exact h
/-! FrostBox looksAlike(II)Z -/
set_option maxRecDepth 100000 in
theorem B_FB_looksAlike_0 {Γ : XG} {d : Nat} {Q : Option Value → XM → Prop} {r0 r0_9 : Nat} {x1 x2 : Int32} {μ : XM} (o_r0_10 : ob μ r0 10) (e_r0_9 : xR μ r0 9 = some r0_9) (o_r0_9_6 : ob μ r0_9 6) (h : Call Γ m_Pi_hasLabel d [.ref r0_9, .int x1] μ (KI (fun v1 μ1 => ((v1 = w 0 → xR μ1 r0 9 = some r0_9 ∧ Call Γ m_Pi_hasLabel d [.ref r0_9, .int x2] μ1 (KI (fun v3 μ3 => ((v3 = w 0 → Call Γ m_FB_weightOf d [.ref r0, .int x1] μ3 (KI (fun v4 μ4 => Call Γ m_FB_weightOf d [.ref r0, .int x2] μ4 (KI (fun v5 μ5 => ((v4 = v5 → ∃ a6, xR μ5 r0 1 = some a6 ∧ ob μ5 a6 1 ∧ ∃ a7, xR μ5 a6 1 = some a7 ∧ xR μ5 r0 9 = some r0_9 ∧ ∃ a9, xR μ5 r0_9 0 = some a9 ∧ inb μ5 0 a9 x1 ∧ inb μ5 8 a7 (xI μ5 a9 x1.toNatClampNeg) ∧ ∃ a11, xR μ5 a7 (xI μ5 a9 x1.toNatClampNeg).toNatClampNeg = some a11 ∧ inb μ5 0 a11 (w 0) ∧ inb μ5 0 a9 x2 ∧ inb μ5 8 a7 (xI μ5 a9 x2.toNatClampNeg) ∧ ∃ a14, xR μ5 a7 (xI μ5 a9 x2.toNatClampNeg).toNatClampNeg = some a14 ∧ inb μ5 0 a14 (w 0) ∧ ((xI μ5 a11 (w 0).toNatClampNeg = xI μ5 a14 (w 0).toNatClampNeg → Q (some (.int (w 1))) μ5) ∧ (¬ xI μ5 a11 (w 0).toNatClampNeg = xI μ5 a14 (w 0).toNatClampNeg → Q (some (.int (w 0))) μ5))) ∧ (¬ v4 = v5 → Q (some (.int (w 0))) μ5))))))) ∧ (¬ v3 = w 0 → Q (some (.int (w 0))) μ3))))) ∧ (¬ v1 = w 0 → Q (some (.int (w 0))) μ1))))) : G Γ m_FB_looksAlike (d + 1) (0, 0) Q 0 [.ref r0, .int x1, .int x2] [] μ := by
  refine run_ok (pc' := 5) [(.aload_n 0, 0, 0, 0), (.getfield 48, 10, 9, 2), (.iload_n 1, 0, 0, 0)] _ _ _ _ (by decide +kernel) ?_
  show _ ∧ (∃ _, _ ∧ (_))
  refine ⟨o_r0_10, r0_9, e_r0_9, ?_⟩
  show G Γ m_FB_looksAlike (d + 1) (0, 0) Q 5 [.ref r0, .int x1, .int x2] [.int x1, .ref r0_9] μ
  refine g_invV (M' := m_Pi_hasLabel) (b1 := 0) (b2 := 0) (As := [.int x1]) (a := r0_9) (st := []) lk_10_193 (by decide +kernel) rfl (dk_Pi_hasLabel d) (Nat.le_of_ble_eq_true rfl) (Or.inl ⟨6, o_r0_9_6, rfl⟩) h ?_
  rintro _ μ1 ⟨v1, rfl, h⟩ hn1
  show G Γ m_FB_looksAlike (d + 1) (0, 0) Q 8 [.ref r0, .int x1, .int x2] [.int v1] μ1
  refine g_ifz_ne (pc' := 80) (off := 72) (by decide) (by decide +kernel) (fun hc => ?_) (fun hc => ?_)
  · replace h := h.2 hc
    show G Γ m_FB_looksAlike (d + 1) (0, 0) Q 80 [.ref r0, .int x1, .int x2] [] μ1
    refine run_ok (pc' := 81) [(.iconst 0, 0, 0, 0)] _ _ _ _ (by decide +kernel) ?_
    show G Γ m_FB_looksAlike (d + 1) (0, 0) Q 81 [.ref r0, .int x1, .int x2] [.int (w 0)] μ1
    exact g_retz (by decide +kernel) rfl (Or.inl rfl) h
  · replace h := h.1 hc
    show G Γ m_FB_looksAlike (d + 1) (0, 0) Q 11 [.ref r0, .int x1, .int x2] [] μ1
    obtain ⟨ea2, h⟩ := h
    refine run_ok (pc' := 16) [(.aload_n 0, 0, 0, 0), (.getfield 48, 10, 9, 2), (.iload_n 2, 0, 0, 0)] _ _ _ _ (by decide +kernel) ?_
    show _ ∧ (∃ _, _ ∧ (_))
    refine ⟨((o_r0_10).mono hn1), r0_9, ea2, ?_⟩
    show G Γ m_FB_looksAlike (d + 1) (0, 0) Q 16 [.ref r0, .int x1, .int x2] [.int x2, .ref r0_9] μ1
    refine g_invV (M' := m_Pi_hasLabel) (b1 := 0) (b2 := 0) (As := [.int x2]) (a := r0_9) (st := []) lk_10_193 (by decide +kernel) rfl (dk_Pi_hasLabel d) (Nat.le_of_ble_eq_true rfl) (Or.inl ⟨6, ((o_r0_9_6).mono hn1), rfl⟩) h ?_
    rintro _ μ3 ⟨v3, rfl, h⟩ hn3
    show G Γ m_FB_looksAlike (d + 1) (0, 0) Q 19 [.ref r0, .int x1, .int x2] [.int v3] μ3
    refine g_ifz_ne (pc' := 80) (off := 61) (by decide) (by decide +kernel) (fun hc => ?_) (fun hc => ?_)
    · replace h := h.2 hc
      show G Γ m_FB_looksAlike (d + 1) (0, 0) Q 80 [.ref r0, .int x1, .int x2] [] μ3
      refine run_ok (pc' := 81) [(.iconst 0, 0, 0, 0)] _ _ _ _ (by decide +kernel) ?_
      show G Γ m_FB_looksAlike (d + 1) (0, 0) Q 81 [.ref r0, .int x1, .int x2] [.int (w 0)] μ3
      exact g_retz (by decide +kernel) rfl (Or.inl rfl) h
    · replace h := h.1 hc
      show G Γ m_FB_looksAlike (d + 1) (0, 0) Q 22 [.ref r0, .int x1, .int x2] [] μ3
      refine run_ok (pc' := 24) [(.aload_n 0, 0, 0, 0), (.iload_n 1, 0, 0, 0)] _ _ _ _ (by decide +kernel) ?_
      show G Γ m_FB_looksAlike (d + 1) (0, 0) Q 24 [.ref r0, .int x1, .int x2] [.int x1, .ref r0] μ3
      refine g_invV (M' := m_FB_weightOf) (b1 := 0) (b2 := 0) (As := [.int x1]) (a := r0) (st := []) lk_10_200 (by decide +kernel) rfl (dk_FB_weightOf d) (Nat.le_of_ble_eq_true rfl) (Or.inl ⟨10, (((o_r0_10).mono hn1).mono hn3), rfl⟩) h ?_
      rintro _ μ4 ⟨v4, rfl, h⟩ hn4
      show G Γ m_FB_looksAlike (d + 1) (0, 0) Q 27 [.ref r0, .int x1, .int x2] [.int v4] μ4
      refine run_ok (pc' := 29) [(.aload_n 0, 0, 0, 0), (.iload_n 2, 0, 0, 0)] _ _ _ _ (by decide +kernel) ?_
      show G Γ m_FB_looksAlike (d + 1) (0, 0) Q 29 [.ref r0, .int x1, .int x2] [.int x2, .ref r0, .int v4] μ4
      refine g_invV (M' := m_FB_weightOf) (b1 := 0) (b2 := 0) (As := [.int x2]) (a := r0) (st := [.int v4]) lk_10_200 (by decide +kernel) rfl (dk_FB_weightOf d) (Nat.le_of_ble_eq_true rfl) (Or.inl ⟨10, ((((o_r0_10).mono hn1).mono hn3).mono hn4), rfl⟩) h ?_
      rintro _ μ5 ⟨v5, rfl, h⟩ hn5
      show G Γ m_FB_looksAlike (d + 1) (0, 0) Q 32 [.ref r0, .int x1, .int x2] [.int v5, .int v4] μ5
      refine g_icmp_ne (pc' := 80) (off := 48) (by decide) (by decide +kernel) (fun hc => ?_) (fun hc => ?_)
      · replace h := h.2 hc
        show G Γ m_FB_looksAlike (d + 1) (0, 0) Q 80 [.ref r0, .int x1, .int x2] [] μ5
        refine run_ok (pc' := 81) [(.iconst 0, 0, 0, 0)] _ _ _ _ (by decide +kernel) ?_
        show G Γ m_FB_looksAlike (d + 1) (0, 0) Q 81 [.ref r0, .int x1, .int x2] [.int (w 0)] μ5
        exact g_retz (by decide +kernel) rfl (Or.inl rfl) h
      · replace h := h.1 hc
        show G Γ m_FB_looksAlike (d + 1) (0, 0) Q 35 [.ref r0, .int x1, .int x2] [] μ5
        obtain ⟨a6, ea6, h⟩ := h
        obtain ⟨o_a6_1, h⟩ := h
        obtain ⟨a7, ea7, h⟩ := h
        obtain ⟨ea8, h⟩ := h
        obtain ⟨a9, ea9, h⟩ := h
        obtain ⟨ib10, h⟩ := h
        obtain ⟨ib11, h⟩ := h
        obtain ⟨a11, ea11, h⟩ := h
        obtain ⟨ib12, h⟩ := h
        obtain ⟨ib13, h⟩ := h
        obtain ⟨ib14, h⟩ := h
        obtain ⟨a14, ea14, h⟩ := h
        obtain ⟨ib15, h⟩ := h
        refine run_ok (pc' := 73) [(.aload_n 0, 0, 0, 0), (.getfield 19, 10, 1, 2), (.getfield 172, 1, 1, 2), (.aload_n 0, 0, 0, 0), (.getfield 48, 10, 9, 2), (.getfield 185, 6, 0, 2), (.iload_n 1, 0, 0, 0), (.iaload, 0, 0, 0), (.aaload, 8, 0, 0), (.iconst 0, 0, 0, 0), (.iaload, 0, 0, 0), (.aload_n 0, 0, 0, 0), (.getfield 19, 10, 1, 2), (.getfield 172, 1, 1, 2), (.aload_n 0, 0, 0, 0), (.getfield 48, 10, 9, 2), (.getfield 185, 6, 0, 2), (.iload_n 2, 0, 0, 0), (.iaload, 0, 0, 0), (.aaload, 8, 0, 0), (.iconst 0, 0, 0, 0), (.iaload, 0, 0, 0)] _ _ _ _ (by decide +kernel) ?_
        show _ ∧ (∃ _, _ ∧ (_ ∧ (∃ _, _ ∧ (_ ∧ (∃ _, _ ∧ (_ ∧ (∃ _, _ ∧ (_ ∧ (_ ∧ (∃ _, _ ∧ (_ ∧ (_ ∧ (∃ _, _ ∧ (_ ∧ (∃ _, _ ∧ (_ ∧ (∃ _, _ ∧ (_ ∧ (∃ _, _ ∧ (_ ∧ (_ ∧ (∃ _, _ ∧ (_ ∧ (_))))))))))))))))))))))))
        refine ⟨(((((o_r0_10).mono hn1).mono hn3).mono hn4).mono hn5), a6, ea6, o_a6_1, a7, ea7, (((((o_r0_10).mono hn1).mono hn3).mono hn4).mono hn5), r0_9, ea8, (((((o_r0_9_6).mono hn1).mono hn3).mono hn4).mono hn5), a9, ea9, ib10, ib11, a11, ea11, ib12, (((((o_r0_10).mono hn1).mono hn3).mono hn4).mono hn5), a6, ea6, o_a6_1, a7, ea7, (((((o_r0_10).mono hn1).mono hn3).mono hn4).mono hn5), r0_9, ea8, (((((o_r0_9_6).mono hn1).mono hn3).mono hn4).mono hn5), a9, ea9, ib13, ib14, a14, ea14, ib15, ?_⟩
        show G Γ m_FB_looksAlike (d + 1) (0, 0) Q 73 [.ref r0, .int x1, .int x2] [.int (xI μ5 a14 (w 0).toNatClampNeg), .int (xI μ5 a11 (w 0).toNatClampNeg)] μ5
        refine g_icmp_ne (pc' := 80) (off := 7) (by decide) (by decide +kernel) (fun hc => ?_) (fun hc => ?_)
        · replace h := h.2 hc
          show G Γ m_FB_looksAlike (d + 1) (0, 0) Q 80 [.ref r0, .int x1, .int x2] [] μ5
          refine run_ok (pc' := 81) [(.iconst 0, 0, 0, 0)] _ _ _ _ (by decide +kernel) ?_
          show G Γ m_FB_looksAlike (d + 1) (0, 0) Q 81 [.ref r0, .int x1, .int x2] [.int (w 0)] μ5
          exact g_retz (by decide +kernel) rfl (Or.inl rfl) h
        · replace h := h.1 hc
          show G Γ m_FB_looksAlike (d + 1) (0, 0) Q 76 [.ref r0, .int x1, .int x2] [] μ5
          refine run_ok (pc' := 81) [(.iconst 1, 0, 0, 0), (.goto 4, 0, 0, 0)] _ _ _ _ (by decide +kernel) ?_
          show G Γ m_FB_looksAlike (d + 1) (0, 0) Q 81 [.ref r0, .int x1, .int x2] [.int (w 1)] μ5
          exact g_retz (by decide +kernel) rfl (Or.inr rfl) h
/-! FrostBox make(II)I -/
set_option maxRecDepth 100000 in
theorem B_FB_make_0 {Γ : XG} {d : Nat} {Q : Option Value → XM → Prop} {r0 : Nat} {x1 x2 : Int32} {μ : XM} (o_r0_10 : ob μ r0 10) (h : Call Γ m_FB_isKind d [.ref r0, .int x1] μ (KI (fun v1 μ1 => ((v1 = w 0 → Q (some (.int (w (-1)))) μ1) ∧ (¬ v1 = w 0 → ((x2 < w 1 → Q (some (.int (w (-1)))) μ1) ∧ (¬ x2 < w 1 → ((w 81 < x2 → Q (some (.int (w (-1)))) μ1) ∧ (¬ w 81 < x2 → ∃ a2, xR μ1 r0 1 = some a2 ∧ ob μ1 a2 1 ∧ Call Γ m_Ho_portionsThatWeigh d [.ref a2, .int x1, .int x2] μ1 (KI (fun v3 μ3 => Q (some (.int v3)) μ3))))))))))) : G Γ m_FB_make (d + 1) (0, 0) Q 0 [.ref r0, .int x1, .int x2] [] μ := by
  refine run_ok (pc' := 2) [(.aload_n 0, 0, 0, 0), (.iload_n 1, 0, 0, 0)] _ _ _ _ (by decide +kernel) ?_
  show G Γ m_FB_make (d + 1) (0, 0) Q 2 [.ref r0, .int x1, .int x2] [.int x1, .ref r0] μ
  refine g_invV (M' := m_FB_isKind) (b1 := 0) (b2 := 0) (As := [.int x1]) (a := r0) (st := []) lk_10_169 (by decide +kernel) rfl (dk_FB_isKind d) (Nat.le_of_ble_eq_true rfl) (Or.inl ⟨10, o_r0_10, rfl⟩) h ?_
  rintro _ μ1 ⟨v1, rfl, h⟩ hn1
  show G Γ m_FB_make (d + 1) (0, 0) Q 5 [.ref r0, .int x1, .int x2] [.int v1] μ1
  refine g_ifz_eq (pc' := 19) (off := 14) (by decide) (by decide +kernel) (fun hc => ?_) (fun hc => ?_)
  · replace h := h.1 hc
    show G Γ m_FB_make (d + 1) (0, 0) Q 19 [.ref r0, .int x1, .int x2] [] μ1
    refine run_ok (pc' := 20) [(.iconst (-1), 0, 0, 0)] _ _ _ _ (by decide +kernel) ?_
    show G Γ m_FB_make (d + 1) (0, 0) Q 20 [.ref r0, .int x1, .int x2] [.int (w (-1))] μ1
    exact g_reti (by decide +kernel) rfl h
  · replace h := h.2 hc
    show G Γ m_FB_make (d + 1) (0, 0) Q 8 [.ref r0, .int x1, .int x2] [] μ1
    refine run_ok (pc' := 10) [(.iload_n 2, 0, 0, 0), (.iconst 1, 0, 0, 0)] _ _ _ _ (by decide +kernel) ?_
    show G Γ m_FB_make (d + 1) (0, 0) Q 10 [.ref r0, .int x1, .int x2] [.int (w 1), .int x2] μ1
    refine g_icmp_lt (pc' := 19) (off := 9) (by decide) (by decide +kernel) (fun hc => ?_) (fun hc => ?_)
    · replace h := h.1 hc
      show G Γ m_FB_make (d + 1) (0, 0) Q 19 [.ref r0, .int x1, .int x2] [] μ1
      refine run_ok (pc' := 20) [(.iconst (-1), 0, 0, 0)] _ _ _ _ (by decide +kernel) ?_
      show G Γ m_FB_make (d + 1) (0, 0) Q 20 [.ref r0, .int x1, .int x2] [.int (w (-1))] μ1
      exact g_reti (by decide +kernel) rfl h
    · replace h := h.2 hc
      show G Γ m_FB_make (d + 1) (0, 0) Q 13 [.ref r0, .int x1, .int x2] [] μ1
      refine run_ok (pc' := 16) [(.iload_n 2, 0, 0, 0), (.bipush 81, 0, 0, 0)] _ _ _ _ (by decide +kernel) ?_
      show G Γ m_FB_make (d + 1) (0, 0) Q 16 [.ref r0, .int x1, .int x2] [.int (w 81), .int x2] μ1
      refine g_icmp_le (pc' := 21) (off := 5) (by decide) (by decide +kernel) (fun hc => ?_) (fun hc => ?_)
      · replace h := h.2 hc
        show G Γ m_FB_make (d + 1) (0, 0) Q 21 [.ref r0, .int x1, .int x2] [] μ1
        obtain ⟨a2, ea2, h⟩ := h
        refine run_ok (pc' := 27) [(.aload_n 0, 0, 0, 0), (.getfield 19, 10, 1, 2), (.iload_n 1, 0, 0, 0), (.iload_n 2, 0, 0, 0)] _ _ _ _ (by decide +kernel) ?_
        show _ ∧ (∃ _, _ ∧ (_))
        refine ⟨((o_r0_10).mono hn1), a2, ea2, ?_⟩
        show G Γ m_FB_make (d + 1) (0, 0) Q 27 [.ref r0, .int x1, .int x2] [.int x2, .int x1, .ref a2] μ1
        obtain ⟨o_a2_1, h⟩ := h
        refine g_invV (M' := m_Ho_portionsThatWeigh) (b1 := 0) (b2 := 0) (As := [.int x1, .int x2]) (a := a2) (st := []) lk_10_382 (by decide +kernel) rfl (dk_Ho_portionsThatWeigh d) (Nat.le_of_ble_eq_true rfl) (Or.inl ⟨1, o_a2_1, rfl⟩) h ?_
        rintro _ μ3 ⟨v3, rfl, h⟩ hn3
        show G Γ m_FB_make (d + 1) (0, 0) Q 30 [.ref r0, .int x1, .int x2] [.int v3] μ3
        exact g_reti (by decide +kernel) rfl h
      · replace h := h.1 hc
        show G Γ m_FB_make (d + 1) (0, 0) Q 19 [.ref r0, .int x1, .int x2] [] μ1
        refine run_ok (pc' := 20) [(.iconst (-1), 0, 0, 0)] _ _ _ _ (by decide +kernel) ?_
        show G Γ m_FB_make (d + 1) (0, 0) Q 20 [.ref r0, .int x1, .int x2] [.int (w (-1))] μ1
        exact g_reti (by decide +kernel) rfl h
/-! FrostBox peek(II)I -/
set_option maxRecDepth 100000 in
theorem lk_10_395 : LkV 10 395 m_Lo_add 2 := ⟨lc_Lo_add, lwG_in (List.mem_of_getElem? (i := 1010) rfl) rfl, lwG_in (List.mem_of_getElem? (i := 1011) rfl) rfl, lwG_in (List.mem_of_getElem? (i := 1012) rfl) rfl⟩
set_option maxRecDepth 100000 in
theorem B_FB_peek_0 {Γ : XG} {d : Nat} {Q : Option Value → XM → Prop} {r0 : Nat} {x1 x2 : Int32} {μ : XM} (o_r0_10 : ob μ r0 10) (h : Call Γ m_FB_hasHouse d [.ref r0] μ (KI (fun v1 μ1 => ((v1 = w 0 → Q (some (.int (w (-1)))) μ1) ∧ (¬ v1 = w 0 → ((x1 < w 0 → Q (some (.int (w (-1)))) μ1) ∧ (¬ x1 < w 0 → ((w 1 < x1 → Q (some (.int (w (-1)))) μ1) ∧ (¬ w 1 < x1 → ∃ a2, xR μ1 r0 14 = some a2 ∧ ob μ1 a2 3 ∧ ((xI μ1 a2 2 < w 12 → inb μ1 0 8 x1 ∧ ((x2 < xI μ1 8 x1.toNatClampNeg → Q (some (.int (w (-1)))) μ1) ∧ (¬ x2 < xI μ1 8 x1.toNatClampNeg → inb μ1 0 9 x1 ∧ ((xI μ1 9 x1.toNatClampNeg < x2 → Q (some (.int (w (-1)))) μ1) ∧ (¬ xI μ1 9 x1.toNatClampNeg < x2 → Call Γ m_Lo_add d [.ref a2, .int x1, .int x2] μ1 (KV (fun μ5 => xR μ5 r0 14 = some a2 ∧ Q (some (.int (xI μ5 a2 2))) μ5))))))) ∧ (¬ xI μ1 a2 2 < w 12 → Q (some (.int (w (-1)))) μ1))))))))))) : G Γ m_FB_peek (d + 1) (0, 0) Q 0 [.ref r0, .int x1, .int x2] [] μ := by
  refine run_ok (pc' := 1) [(.aload_n 0, 0, 0, 0)] _ _ _ _ (by decide +kernel) ?_
  show G Γ m_FB_peek (d + 1) (0, 0) Q 1 [.ref r0, .int x1, .int x2] [.ref r0] μ
  refine g_invV (M' := m_FB_hasHouse) (b1 := 0) (b2 := 0) (As := []) (a := r0) (st := []) lk_10_162 (by decide +kernel) rfl (dk_FB_hasHouse d) (Nat.le_of_ble_eq_true rfl) (Or.inl ⟨10, o_r0_10, rfl⟩) h ?_
  rintro _ μ1 ⟨v1, rfl, h⟩ hn1
  show G Γ m_FB_peek (d + 1) (0, 0) Q 4 [.ref r0, .int x1, .int x2] [.int v1] μ1
  refine g_ifz_eq (pc' := 46) (off := 42) (by decide) (by decide +kernel) (fun hc => ?_) (fun hc => ?_)
  · replace h := h.1 hc
    show G Γ m_FB_peek (d + 1) (0, 0) Q 46 [.ref r0, .int x1, .int x2] [] μ1
    refine run_ok (pc' := 47) [(.iconst (-1), 0, 0, 0)] _ _ _ _ (by decide +kernel) ?_
    show G Γ m_FB_peek (d + 1) (0, 0) Q 47 [.ref r0, .int x1, .int x2] [.int (w (-1))] μ1
    exact g_reti (by decide +kernel) rfl h
  · replace h := h.2 hc
    show G Γ m_FB_peek (d + 1) (0, 0) Q 7 [.ref r0, .int x1, .int x2] [] μ1
    refine run_ok (pc' := 8) [(.iload_n 1, 0, 0, 0)] _ _ _ _ (by decide +kernel) ?_
    show G Γ m_FB_peek (d + 1) (0, 0) Q 8 [.ref r0, .int x1, .int x2] [.int x1] μ1
    refine g_ifz_lt (pc' := 46) (off := 38) (by decide) (by decide +kernel) (fun hc => ?_) (fun hc => ?_)
    · replace h := h.1 hc
      show G Γ m_FB_peek (d + 1) (0, 0) Q 46 [.ref r0, .int x1, .int x2] [] μ1
      refine run_ok (pc' := 47) [(.iconst (-1), 0, 0, 0)] _ _ _ _ (by decide +kernel) ?_
      show G Γ m_FB_peek (d + 1) (0, 0) Q 47 [.ref r0, .int x1, .int x2] [.int (w (-1))] μ1
      exact g_reti (by decide +kernel) rfl h
    · replace h := h.2 hc
      show G Γ m_FB_peek (d + 1) (0, 0) Q 11 [.ref r0, .int x1, .int x2] [] μ1
      refine run_ok (pc' := 13) [(.iload_n 1, 0, 0, 0), (.iconst 1, 0, 0, 0)] _ _ _ _ (by decide +kernel) ?_
      show G Γ m_FB_peek (d + 1) (0, 0) Q 13 [.ref r0, .int x1, .int x2] [.int (w 1), .int x1] μ1
      refine g_icmp_gt (pc' := 46) (off := 33) (by decide) (by decide +kernel) (fun hc => ?_) (fun hc => ?_)
      · replace h := h.1 hc
        show G Γ m_FB_peek (d + 1) (0, 0) Q 46 [.ref r0, .int x1, .int x2] [] μ1
        refine run_ok (pc' := 47) [(.iconst (-1), 0, 0, 0)] _ _ _ _ (by decide +kernel) ?_
        show G Γ m_FB_peek (d + 1) (0, 0) Q 47 [.ref r0, .int x1, .int x2] [.int (w (-1))] μ1
        exact g_reti (by decide +kernel) rfl h
      · replace h := h.2 hc
        show G Γ m_FB_peek (d + 1) (0, 0) Q 16 [.ref r0, .int x1, .int x2] [] μ1
        obtain ⟨a2, ea2, h⟩ := h
        obtain ⟨o_a2_3, h⟩ := h
        refine run_ok (pc' := 25) [(.aload_n 0, 0, 0, 0), (.getfield 79, 10, 14, 2), (.getfield 159, 3, 2, 0), (.bipush 12, 0, 0, 0)] _ _ _ _ (by decide +kernel) ?_
        show _ ∧ (∃ _, _ ∧ (_ ∧ (_)))
        refine ⟨((o_r0_10).mono hn1), a2, ea2, o_a2_3, ?_⟩
        show G Γ m_FB_peek (d + 1) (0, 0) Q 25 [.ref r0, .int x1, .int x2] [.int (w 12), .int (xI μ1 a2 2)] μ1
        refine g_icmp_ge (pc' := 46) (off := 21) (by decide) (by decide +kernel) (fun hc => ?_) (fun hc => ?_)
        · replace h := h.2 hc
          show G Γ m_FB_peek (d + 1) (0, 0) Q 46 [.ref r0, .int x1, .int x2] [] μ1
          refine run_ok (pc' := 47) [(.iconst (-1), 0, 0, 0)] _ _ _ _ (by decide +kernel) ?_
          show G Γ m_FB_peek (d + 1) (0, 0) Q 47 [.ref r0, .int x1, .int x2] [.int (w (-1))] μ1
          exact g_reti (by decide +kernel) rfl h
        · replace h := h.1 hc
          show G Γ m_FB_peek (d + 1) (0, 0) Q 28 [.ref r0, .int x1, .int x2] [] μ1
          obtain ⟨ib3, h⟩ := h
          refine run_ok (pc' := 34) [(.iload_n 2, 0, 0, 0), (.getstatic 389, 0, 8, 0), (.iload_n 1, 0, 0, 0), (.iaload, 0, 0, 0)] _ _ _ _ (by decide +kernel) ?_
          show _ ∧ (_)
          refine ⟨ib3, ?_⟩
          show G Γ m_FB_peek (d + 1) (0, 0) Q 34 [.ref r0, .int x1, .int x2] [.int (xI μ1 8 x1.toNatClampNeg), .int x2] μ1
          refine g_icmp_lt (pc' := 46) (off := 12) (by decide) (by decide +kernel) (fun hc => ?_) (fun hc => ?_)
          · replace h := h.1 hc
            show G Γ m_FB_peek (d + 1) (0, 0) Q 46 [.ref r0, .int x1, .int x2] [] μ1
            refine run_ok (pc' := 47) [(.iconst (-1), 0, 0, 0)] _ _ _ _ (by decide +kernel) ?_
            show G Γ m_FB_peek (d + 1) (0, 0) Q 47 [.ref r0, .int x1, .int x2] [.int (w (-1))] μ1
            exact g_reti (by decide +kernel) rfl h
          · replace h := h.2 hc
            show G Γ m_FB_peek (d + 1) (0, 0) Q 37 [.ref r0, .int x1, .int x2] [] μ1
            obtain ⟨ib4, h⟩ := h
            refine run_ok (pc' := 43) [(.iload_n 2, 0, 0, 0), (.getstatic 392, 0, 9, 0), (.iload_n 1, 0, 0, 0), (.iaload, 0, 0, 0)] _ _ _ _ (by decide +kernel) ?_
            show _ ∧ (_)
            refine ⟨ib4, ?_⟩
            show G Γ m_FB_peek (d + 1) (0, 0) Q 43 [.ref r0, .int x1, .int x2] [.int (xI μ1 9 x1.toNatClampNeg), .int x2] μ1
            refine g_icmp_le (pc' := 48) (off := 5) (by decide) (by decide +kernel) (fun hc => ?_) (fun hc => ?_)
            · replace h := h.2 hc
              show G Γ m_FB_peek (d + 1) (0, 0) Q 48 [.ref r0, .int x1, .int x2] [] μ1
              refine run_ok (pc' := 54) [(.aload_n 0, 0, 0, 0), (.getfield 79, 10, 14, 2), (.iload_n 1, 0, 0, 0), (.iload_n 2, 0, 0, 0)] _ _ _ _ (by decide +kernel) ?_
              show _ ∧ (∃ _, _ ∧ (_))
              refine ⟨((o_r0_10).mono hn1), a2, ea2, ?_⟩
              show G Γ m_FB_peek (d + 1) (0, 0) Q 54 [.ref r0, .int x1, .int x2] [.int x2, .int x1, .ref a2] μ1
              refine g_invV (M' := m_Lo_add) (b1 := 0) (b2 := 0) (As := [.int x1, .int x2]) (a := a2) (st := []) lk_10_395 (by decide +kernel) rfl (dk_Lo_add d) (Nat.le_of_ble_eq_true rfl) (Or.inl ⟨3, o_a2_3, rfl⟩) h ?_
              rintro _ μ5 ⟨rfl, h⟩ hn5
              show G Γ m_FB_peek (d + 1) (0, 0) Q 57 [.ref r0, .int x1, .int x2] [] μ5
              obtain ⟨ea6, h⟩ := h
              refine run_ok (pc' := 64) [(.aload_n 0, 0, 0, 0), (.getfield 79, 10, 14, 2), (.getfield 159, 3, 2, 0)] _ _ _ _ (by decide +kernel) ?_
              show _ ∧ (∃ _, _ ∧ (_ ∧ (_)))
              refine ⟨(((o_r0_10).mono hn1).mono hn5), a2, ea6, ((o_a2_3).mono hn5), ?_⟩
              show G Γ m_FB_peek (d + 1) (0, 0) Q 64 [.ref r0, .int x1, .int x2] [.int (xI μ5 a2 2)] μ5
              exact g_reti (by decide +kernel) rfl h
            · replace h := h.1 hc
              show G Γ m_FB_peek (d + 1) (0, 0) Q 46 [.ref r0, .int x1, .int x2] [] μ1
              refine run_ok (pc' := 47) [(.iconst (-1), 0, 0, 0)] _ _ _ _ (by decide +kernel) ?_
              show G Γ m_FB_peek (d + 1) (0, 0) Q 47 [.ref r0, .int x1, .int x2] [.int (w (-1))] μ1
              exact g_reti (by decide +kernel) rfl h
/-! FrostBox what(I)I -/
set_option maxRecDepth 100000 in
theorem lk_10_406 : LkV 10 406 m_Lo_sureOf 2 := ⟨lc_Lo_sureOf, lwG_in (List.mem_of_getElem? (i := 1031) rfl) rfl, lwG_in (List.mem_of_getElem? (i := 1032) rfl) rfl, lwG_in (List.mem_of_getElem? (i := 1033) rfl) rfl⟩
set_option maxRecDepth 100000 in
theorem lk_10_402 : LkV 10 402 m_Lo_likeliest 1 := ⟨lc_Lo_likeliest, lwG_in (List.mem_of_getElem? (i := 1027) rfl) rfl, lwG_in (List.mem_of_getElem? (i := 1028) rfl) rfl, lwG_in (List.mem_of_getElem? (i := 1029) rfl) rfl⟩
set_option maxRecDepth 100000 in
theorem lk_10_398 : LkV 10 398 m_Lo_greatestAlike 2 := ⟨lc_Lo_greatestAlike, lwG_in (List.mem_of_getElem? (i := 1018) rfl) rfl, lwG_in (List.mem_of_getElem? (i := 1019) rfl) rfl, lwG_in (List.mem_of_getElem? (i := 1020) rfl) rfl⟩
set_option maxRecDepth 100000 in
theorem B_FB_what_0 {Γ : XG} {d : Nat} {Q : Option Value → XM → Prop} {r0 : Nat} {x1 : Int32} {μ : XM} (o_r0_10 : ob μ r0 10) (h : Call Γ m_FB_hasHouse d [.ref r0] μ (KI (fun v1 μ1 => ((v1 = w 0 → Q (some (.int (w (-1)))) μ1) ∧ (¬ v1 = w 0 → ((x1 < w 0 → Q (some (.int (w (-1)))) μ1) ∧ (¬ x1 < w 0 → ((w 2 < x1 → Q (some (.int (w (-1)))) μ1) ∧ (¬ w 2 < x1 → ((x1 = w 2 → ∃ a8, xR μ1 r0 14 = some a8 ∧ ∃ a9, xR μ1 r0 1 = some a9 ∧ ob μ1 a8 3 ∧ Call Γ m_Lo_greatestAlike d [.ref a8, .ref a9, .int (w 0)] μ1 (KL (fun v10 μ10 => xR μ10 r0 14 = some a8 ∧ xR μ10 r0 1 = some a9 ∧ Call Γ m_Lo_greatestAlike d [.ref a8, .ref a9, .int (w 1)] μ10 (KL (fun v13 μ13 => ((w 0 < lg_cmp v10 v13 → Q (some (.int (w 1))) μ13) ∧ (¬ w 0 < lg_cmp v10 v13 → Q (some (.int (w 0))) μ13))))))) ∧ (¬ x1 = w 2 → ∃ a2, xR μ1 r0 14 = some a2 ∧ ∃ a3, xR μ1 r0 1 = some a3 ∧ ob μ1 a2 3 ∧ Call Γ m_Lo_likeliest d [.ref a2, .ref a3] μ1 (KI (fun v4 μ4 => ((x1 = w 0 → Q (some (.int v4)) μ4) ∧ (¬ x1 = w 0 → xR μ4 r0 14 = some a2 ∧ xR μ4 r0 1 = some a3 ∧ Call Γ m_Lo_sureOf d [.ref a2, .ref a3, .int v4] μ4 (KI (fun v7 μ7 => Q (some (.int v7)) μ7))))))))))))))))) : G Γ m_FB_what (d + 1) (0, 0) Q 0 [.ref r0, .int x1] [] μ := by
  refine run_ok (pc' := 1) [(.aload_n 0, 0, 0, 0)] _ _ _ _ (by decide +kernel) ?_
  show G Γ m_FB_what (d + 1) (0, 0) Q 1 [.ref r0, .int x1] [.ref r0] μ
  refine g_invV (M' := m_FB_hasHouse) (b1 := 0) (b2 := 0) (As := []) (a := r0) (st := []) lk_10_162 (by decide +kernel) rfl (dk_FB_hasHouse d) (Nat.le_of_ble_eq_true rfl) (Or.inl ⟨10, o_r0_10, rfl⟩) h ?_
  rintro _ μ1 ⟨v1, rfl, h⟩ hn1
  show G Γ m_FB_what (d + 1) (0, 0) Q 4 [.ref r0, .int x1] [.int v1] μ1
  refine g_ifz_eq (pc' := 16) (off := 12) (by decide) (by decide +kernel) (fun hc => ?_) (fun hc => ?_)
  · replace h := h.1 hc
    show G Γ m_FB_what (d + 1) (0, 0) Q 16 [.ref r0, .int x1] [] μ1
    refine run_ok (pc' := 17) [(.iconst (-1), 0, 0, 0)] _ _ _ _ (by decide +kernel) ?_
    show G Γ m_FB_what (d + 1) (0, 0) Q 17 [.ref r0, .int x1] [.int (w (-1))] μ1
    exact g_reti (by decide +kernel) rfl h
  · replace h := h.2 hc
    show G Γ m_FB_what (d + 1) (0, 0) Q 7 [.ref r0, .int x1] [] μ1
    refine run_ok (pc' := 8) [(.iload_n 1, 0, 0, 0)] _ _ _ _ (by decide +kernel) ?_
    show G Γ m_FB_what (d + 1) (0, 0) Q 8 [.ref r0, .int x1] [.int x1] μ1
    refine g_ifz_lt (pc' := 16) (off := 8) (by decide) (by decide +kernel) (fun hc => ?_) (fun hc => ?_)
    · replace h := h.1 hc
      show G Γ m_FB_what (d + 1) (0, 0) Q 16 [.ref r0, .int x1] [] μ1
      refine run_ok (pc' := 17) [(.iconst (-1), 0, 0, 0)] _ _ _ _ (by decide +kernel) ?_
      show G Γ m_FB_what (d + 1) (0, 0) Q 17 [.ref r0, .int x1] [.int (w (-1))] μ1
      exact g_reti (by decide +kernel) rfl h
    · replace h := h.2 hc
      show G Γ m_FB_what (d + 1) (0, 0) Q 11 [.ref r0, .int x1] [] μ1
      refine run_ok (pc' := 13) [(.iload_n 1, 0, 0, 0), (.iconst 2, 0, 0, 0)] _ _ _ _ (by decide +kernel) ?_
      show G Γ m_FB_what (d + 1) (0, 0) Q 13 [.ref r0, .int x1] [.int (w 2), .int x1] μ1
      refine g_icmp_le (pc' := 18) (off := 5) (by decide) (by decide +kernel) (fun hc => ?_) (fun hc => ?_)
      · replace h := h.2 hc
        show G Γ m_FB_what (d + 1) (0, 0) Q 18 [.ref r0, .int x1] [] μ1
        refine run_ok (pc' := 20) [(.iload_n 1, 0, 0, 0), (.iconst 2, 0, 0, 0)] _ _ _ _ (by decide +kernel) ?_
        show G Γ m_FB_what (d + 1) (0, 0) Q 20 [.ref r0, .int x1] [.int (w 2), .int x1] μ1
        refine g_icmp_ne (pc' := 57) (off := 37) (by decide) (by decide +kernel) (fun hc => ?_) (fun hc => ?_)
        · replace h := h.2 hc
          show G Γ m_FB_what (d + 1) (0, 0) Q 57 [.ref r0, .int x1] [] μ1
          obtain ⟨a2, ea2, h⟩ := h
          obtain ⟨a3, ea3, h⟩ := h
          refine run_ok (pc' := 65) [(.aload_n 0, 0, 0, 0), (.getfield 79, 10, 14, 2), (.aload_n 0, 0, 0, 0), (.getfield 19, 10, 1, 2)] _ _ _ _ (by decide +kernel) ?_
          show _ ∧ (∃ _, _ ∧ (_ ∧ (∃ _, _ ∧ (_))))
          refine ⟨((o_r0_10).mono hn1), a2, ea2, ((o_r0_10).mono hn1), a3, ea3, ?_⟩
          show G Γ m_FB_what (d + 1) (0, 0) Q 65 [.ref r0, .int x1] [.ref a3, .ref a2] μ1
          obtain ⟨o_a2_3, h⟩ := h
          refine g_invV (M' := m_Lo_likeliest) (b1 := 0) (b2 := 0) (As := [.ref a3]) (a := a2) (st := []) lk_10_402 (by decide +kernel) rfl (dk_Lo_likeliest d) (Nat.le_of_ble_eq_true rfl) (Or.inl ⟨3, o_a2_3, rfl⟩) h ?_
          rintro _ μ4 ⟨v4, rfl, h⟩ hn4
          show G Γ m_FB_what (d + 1) (0, 0) Q 68 [.ref r0, .int x1] [.int v4] μ4
          refine run_ok (pc' := 70) [(.istore_n 2, 0, 0, 0), (.iload_n 1, 0, 0, 0)] _ _ _ _ (by decide +kernel) ?_
          show G Γ m_FB_what (d + 1) (0, 0) Q 70 [.ref r0, .int x1, .int v4] [.int x1] μ4
          refine g_ifz_ne (pc' := 77) (off := 7) (by decide) (by decide +kernel) (fun hc => ?_) (fun hc => ?_)
          · replace h := h.2 hc
            show G Γ m_FB_what (d + 1) (0, 0) Q 77 [.ref r0, .int x1, .int v4] [] μ4
            obtain ⟨ea5, h⟩ := h
            obtain ⟨ea6, h⟩ := h
            refine run_ok (pc' := 86) [(.aload_n 0, 0, 0, 0), (.getfield 79, 10, 14, 2), (.aload_n 0, 0, 0, 0), (.getfield 19, 10, 1, 2), (.iload_n 2, 0, 0, 0)] _ _ _ _ (by decide +kernel) ?_
            show _ ∧ (∃ _, _ ∧ (_ ∧ (∃ _, _ ∧ (_))))
            refine ⟨(((o_r0_10).mono hn1).mono hn4), a2, ea5, (((o_r0_10).mono hn1).mono hn4), a3, ea6, ?_⟩
            show G Γ m_FB_what (d + 1) (0, 0) Q 86 [.ref r0, .int x1, .int v4] [.int v4, .ref a3, .ref a2] μ4
            refine g_invV (M' := m_Lo_sureOf) (b1 := 0) (b2 := 0) (As := [.ref a3, .int v4]) (a := a2) (st := []) lk_10_406 (by decide +kernel) rfl (dk_Lo_sureOf d) (Nat.le_of_ble_eq_true rfl) (Or.inl ⟨3, ((o_a2_3).mono hn4), rfl⟩) h ?_
            rintro _ μ7 ⟨v7, rfl, h⟩ hn7
            show G Γ m_FB_what (d + 1) (0, 0) Q 89 [.ref r0, .int x1, .int v4] [.int v7] μ7
            exact g_reti (by decide +kernel) rfl h
          · replace h := h.1 hc
            show G Γ m_FB_what (d + 1) (0, 0) Q 73 [.ref r0, .int x1, .int v4] [] μ4
            refine run_ok (pc' := 89) [(.iload_n 2, 0, 0, 0), (.goto 15, 0, 0, 0)] _ _ _ _ (by decide +kernel) ?_
            show G Γ m_FB_what (d + 1) (0, 0) Q 89 [.ref r0, .int x1, .int v4] [.int v4] μ4
            exact g_reti (by decide +kernel) rfl h
        · replace h := h.1 hc
          show G Γ m_FB_what (d + 1) (0, 0) Q 23 [.ref r0, .int x1] [] μ1
          obtain ⟨a8, ea8, h⟩ := h
          obtain ⟨a9, ea9, h⟩ := h
          refine run_ok (pc' := 32) [(.aload_n 0, 0, 0, 0), (.getfield 79, 10, 14, 2), (.aload_n 0, 0, 0, 0), (.getfield 19, 10, 1, 2), (.iconst 0, 0, 0, 0)] _ _ _ _ (by decide +kernel) ?_
          show _ ∧ (∃ _, _ ∧ (_ ∧ (∃ _, _ ∧ (_))))
          refine ⟨((o_r0_10).mono hn1), a8, ea8, ((o_r0_10).mono hn1), a9, ea9, ?_⟩
          show G Γ m_FB_what (d + 1) (0, 0) Q 32 [.ref r0, .int x1] [.int (w 0), .ref a9, .ref a8] μ1
          obtain ⟨o_a8_3, h⟩ := h
          refine g_invV (M' := m_Lo_greatestAlike) (b1 := 0) (b2 := 0) (As := [.ref a9, .int (w 0)]) (a := a8) (st := []) lk_10_398 (by decide +kernel) rfl (dk_Lo_greatestAlike d) (Nat.le_of_ble_eq_true rfl) (Or.inl ⟨3, o_a8_3, rfl⟩) h ?_
          rintro _ μ10 ⟨v10, rfl, h⟩ hn10
          show G Γ m_FB_what (d + 1) (0, 0) Q 35 [.ref r0, .int x1] [.long v10] μ10
          obtain ⟨ea11, h⟩ := h
          obtain ⟨ea12, h⟩ := h
          refine run_ok (pc' := 44) [(.aload_n 0, 0, 0, 0), (.getfield 79, 10, 14, 2), (.aload_n 0, 0, 0, 0), (.getfield 19, 10, 1, 2), (.iconst 1, 0, 0, 0)] _ _ _ _ (by decide +kernel) ?_
          show _ ∧ (∃ _, _ ∧ (_ ∧ (∃ _, _ ∧ (_))))
          refine ⟨(((o_r0_10).mono hn1).mono hn10), a8, ea11, (((o_r0_10).mono hn1).mono hn10), a9, ea12, ?_⟩
          show G Γ m_FB_what (d + 1) (0, 0) Q 44 [.ref r0, .int x1] [.int (w 1), .ref a9, .ref a8, .long v10] μ10
          refine g_invV (M' := m_Lo_greatestAlike) (b1 := 0) (b2 := 0) (As := [.ref a9, .int (w 1)]) (a := a8) (st := [.long v10]) lk_10_398 (by decide +kernel) rfl (dk_Lo_greatestAlike d) (Nat.le_of_ble_eq_true rfl) (Or.inl ⟨3, ((o_a8_3).mono hn10), rfl⟩) h ?_
          rintro _ μ13 ⟨v13, rfl, h⟩ hn13
          show G Γ m_FB_what (d + 1) (0, 0) Q 47 [.ref r0, .int x1] [.long v13, .long v10] μ13
          refine run_ok (pc' := 48) [(.lcmp, 0, 0, 0)] _ _ _ _ (by decide +kernel) ?_
          show G Γ m_FB_what (d + 1) (0, 0) Q 48 [.ref r0, .int x1] [.int (lg_cmp v10 v13)] μ13
          refine g_ifz_gt (pc' := 55) (off := 7) (by decide) (by decide +kernel) (fun hc => ?_) (fun hc => ?_)
          · replace h := h.1 hc
            show G Γ m_FB_what (d + 1) (0, 0) Q 55 [.ref r0, .int x1] [] μ13
            refine run_ok (pc' := 56) [(.iconst 1, 0, 0, 0)] _ _ _ _ (by decide +kernel) ?_
            show G Γ m_FB_what (d + 1) (0, 0) Q 56 [.ref r0, .int x1] [.int (w 1)] μ13
            exact g_reti (by decide +kernel) rfl h
          · replace h := h.2 hc
            show G Γ m_FB_what (d + 1) (0, 0) Q 51 [.ref r0, .int x1] [] μ13
            refine run_ok (pc' := 56) [(.iconst 0, 0, 0, 0), (.goto 4, 0, 0, 0)] _ _ _ _ (by decide +kernel) ?_
            show G Γ m_FB_what (d + 1) (0, 0) Q 56 [.ref r0, .int x1] [.int (w 0)] μ13
            exact g_reti (by decide +kernel) rfl h
      · replace h := h.1 hc
        show G Γ m_FB_what (d + 1) (0, 0) Q 16 [.ref r0, .int x1] [] μ1
        refine run_ok (pc' := 17) [(.iconst (-1), 0, 0, 0)] _ _ _ _ (by decide +kernel) ?_
        show G Γ m_FB_what (d + 1) (0, 0) Q 17 [.ref r0, .int x1] [.int (w (-1))] μ1
        exact g_reti (by decide +kernel) rfl h
/-! FrostBox found(IIZ)I -/
set_option maxRecDepth 100000 in
theorem lk_10_410 : LkV 10 410 m_Pa_add 3 := ⟨lc_Pa_add, lwG_in (List.mem_of_getElem? (i := 1040) rfl) rfl, lwG_in (List.mem_of_getElem? (i := 1041) rfl) rfl, lwG_in (List.mem_of_getElem? (i := 1042) rfl) rfl⟩
set_option maxRecDepth 100000 in
theorem B_FB_found_0 {Γ : XG} {d : Nat} {Q : Option Value → XM → Prop} {r0 : Nat} {x1 x2 x3 : Int32} {μ : XM} (o_r0_10 : ob μ r0 10) (h : Call Γ m_FB_isKind d [.ref r0, .int x2] μ (KI (fun v1 μ1 => ((v1 = w 0 → Q (some (.int (w (-1)))) μ1) ∧ (¬ v1 = w 0 → ((x1 < w 0 → Q (some (.int (w (-1)))) μ1) ∧ (¬ x1 < w 0 → ((x1 < w 6 → ∃ a2, xR μ1 r0 15 = some a2 ∧ ob μ1 a2 5 ∧ ((xI μ1 a2 5 < w 10 → Call Γ m_Pa_add d [.ref a2, .int x1, .int x2, .int x3] μ1 (KV (fun μ3 => xR μ3 r0 15 = some a2 ∧ Q (some (.int (xI μ3 a2 5))) μ3))) ∧ (¬ xI μ1 a2 5 < w 10 → Q (some (.int (w (-1)))) μ1))) ∧ (¬ x1 < w 6 → Q (some (.int (w (-1)))) μ1))))))))) : G Γ m_FB_found (d + 1) (0, 0) Q 0 [.ref r0, .int x1, .int x2, .int x3] [] μ := by
  refine run_ok (pc' := 2) [(.aload_n 0, 0, 0, 0), (.iload_n 2, 0, 0, 0)] _ _ _ _ (by decide +kernel) ?_
  show G Γ m_FB_found (d + 1) (0, 0) Q 2 [.ref r0, .int x1, .int x2, .int x3] [.int x2, .ref r0] μ
  refine g_invV (M' := m_FB_isKind) (b1 := 0) (b2 := 0) (As := [.int x2]) (a := r0) (st := []) lk_10_169 (by decide +kernel) rfl (dk_FB_isKind d) (Nat.le_of_ble_eq_true rfl) (Or.inl ⟨10, o_r0_10, rfl⟩) h ?_
  rintro _ μ1 ⟨v1, rfl, h⟩ hn1
  show G Γ m_FB_found (d + 1) (0, 0) Q 5 [.ref r0, .int x1, .int x2, .int x3] [.int v1] μ1
  refine g_ifz_eq (pc' := 30) (off := 25) (by decide) (by decide +kernel) (fun hc => ?_) (fun hc => ?_)
  · replace h := h.1 hc
    show G Γ m_FB_found (d + 1) (0, 0) Q 30 [.ref r0, .int x1, .int x2, .int x3] [] μ1
    refine run_ok (pc' := 31) [(.iconst (-1), 0, 0, 0)] _ _ _ _ (by decide +kernel) ?_
    show G Γ m_FB_found (d + 1) (0, 0) Q 31 [.ref r0, .int x1, .int x2, .int x3] [.int (w (-1))] μ1
    exact g_reti (by decide +kernel) rfl h
  · replace h := h.2 hc
    show G Γ m_FB_found (d + 1) (0, 0) Q 8 [.ref r0, .int x1, .int x2, .int x3] [] μ1
    refine run_ok (pc' := 9) [(.iload_n 1, 0, 0, 0)] _ _ _ _ (by decide +kernel) ?_
    show G Γ m_FB_found (d + 1) (0, 0) Q 9 [.ref r0, .int x1, .int x2, .int x3] [.int x1] μ1
    refine g_ifz_lt (pc' := 30) (off := 21) (by decide) (by decide +kernel) (fun hc => ?_) (fun hc => ?_)
    · replace h := h.1 hc
      show G Γ m_FB_found (d + 1) (0, 0) Q 30 [.ref r0, .int x1, .int x2, .int x3] [] μ1
      refine run_ok (pc' := 31) [(.iconst (-1), 0, 0, 0)] _ _ _ _ (by decide +kernel) ?_
      show G Γ m_FB_found (d + 1) (0, 0) Q 31 [.ref r0, .int x1, .int x2, .int x3] [.int (w (-1))] μ1
      exact g_reti (by decide +kernel) rfl h
    · replace h := h.2 hc
      show G Γ m_FB_found (d + 1) (0, 0) Q 12 [.ref r0, .int x1, .int x2, .int x3] [] μ1
      refine run_ok (pc' := 15) [(.iload_n 1, 0, 0, 0), (.bipush 6, 0, 0, 0)] _ _ _ _ (by decide +kernel) ?_
      show G Γ m_FB_found (d + 1) (0, 0) Q 15 [.ref r0, .int x1, .int x2, .int x3] [.int (w 6), .int x1] μ1
      refine g_icmp_ge (pc' := 30) (off := 15) (by decide) (by decide +kernel) (fun hc => ?_) (fun hc => ?_)
      · replace h := h.2 hc
        show G Γ m_FB_found (d + 1) (0, 0) Q 30 [.ref r0, .int x1, .int x2, .int x3] [] μ1
        refine run_ok (pc' := 31) [(.iconst (-1), 0, 0, 0)] _ _ _ _ (by decide +kernel) ?_
        show G Γ m_FB_found (d + 1) (0, 0) Q 31 [.ref r0, .int x1, .int x2, .int x3] [.int (w (-1))] μ1
        exact g_reti (by decide +kernel) rfl h
      · replace h := h.1 hc
        show G Γ m_FB_found (d + 1) (0, 0) Q 18 [.ref r0, .int x1, .int x2, .int x3] [] μ1
        obtain ⟨a2, ea2, h⟩ := h
        obtain ⟨o_a2_5, h⟩ := h
        refine run_ok (pc' := 27) [(.aload_n 0, 0, 0, 0), (.getfield 86, 10, 15, 2), (.getfield 160, 5, 5, 0), (.bipush 10, 0, 0, 0)] _ _ _ _ (by decide +kernel) ?_
        show _ ∧ (∃ _, _ ∧ (_ ∧ (_)))
        refine ⟨((o_r0_10).mono hn1), a2, ea2, o_a2_5, ?_⟩
        show G Γ m_FB_found (d + 1) (0, 0) Q 27 [.ref r0, .int x1, .int x2, .int x3] [.int (w 10), .int (xI μ1 a2 5)] μ1
        refine g_icmp_lt (pc' := 32) (off := 5) (by decide) (by decide +kernel) (fun hc => ?_) (fun hc => ?_)
        · replace h := h.1 hc
          show G Γ m_FB_found (d + 1) (0, 0) Q 32 [.ref r0, .int x1, .int x2, .int x3] [] μ1
          refine run_ok (pc' := 39) [(.aload_n 0, 0, 0, 0), (.getfield 86, 10, 15, 2), (.iload_n 1, 0, 0, 0), (.iload_n 2, 0, 0, 0), (.iload_n 3, 0, 0, 0)] _ _ _ _ (by decide +kernel) ?_
          show _ ∧ (∃ _, _ ∧ (_))
          refine ⟨((o_r0_10).mono hn1), a2, ea2, ?_⟩
          show G Γ m_FB_found (d + 1) (0, 0) Q 39 [.ref r0, .int x1, .int x2, .int x3] [.int x3, .int x2, .int x1, .ref a2] μ1
          refine g_invV (M' := m_Pa_add) (b1 := 0) (b2 := 0) (As := [.int x1, .int x2, .int x3]) (a := a2) (st := []) lk_10_410 (by decide +kernel) rfl (dk_Pa_add d) (Nat.le_of_ble_eq_true rfl) (Or.inl ⟨5, o_a2_5, rfl⟩) h ?_
          rintro _ μ3 ⟨rfl, h⟩ hn3
          show G Γ m_FB_found (d + 1) (0, 0) Q 42 [.ref r0, .int x1, .int x2, .int x3] [] μ3
          obtain ⟨ea4, h⟩ := h
          refine run_ok (pc' := 49) [(.aload_n 0, 0, 0, 0), (.getfield 86, 10, 15, 2), (.getfield 160, 5, 5, 0)] _ _ _ _ (by decide +kernel) ?_
          show _ ∧ (∃ _, _ ∧ (_ ∧ (_)))
          refine ⟨(((o_r0_10).mono hn1).mono hn3), a2, ea4, ((o_a2_5).mono hn3), ?_⟩
          show G Γ m_FB_found (d + 1) (0, 0) Q 49 [.ref r0, .int x1, .int x2, .int x3] [.int (xI μ3 a2 5)] μ3
          exact g_reti (by decide +kernel) rfl h
        · replace h := h.2 hc
          show G Γ m_FB_found (d + 1) (0, 0) Q 30 [.ref r0, .int x1, .int x2, .int x3] [] μ1
          refine run_ok (pc' := 31) [(.iconst (-1), 0, 0, 0)] _ _ _ _ (by decide +kernel) ?_
          show G Γ m_FB_found (d + 1) (0, 0) Q 31 [.ref r0, .int x1, .int x2, .int x3] [.int (w (-1))] μ1
          exact g_reti (by decide +kernel) rfl h
/-! FrostBox history(II)I -/
set_option maxRecDepth 100000 in
theorem lk_10_413 : LkV 10 413 m_Pa_startRows 2 := ⟨lc_Pa_startRows, lwG_in (List.mem_of_getElem? (i := 1048) rfl) rfl, lwG_in (List.mem_of_getElem? (i := 1049) rfl) rfl, lwG_in (List.mem_of_getElem? (i := 1050) rfl) rfl⟩
set_option maxRecDepth 100000 in
theorem lk_10_422 : LkV 10 422 m_Pa_nextRow 0 := ⟨lc_Pa_nextRow, lwG_in (List.mem_of_getElem? (i := 1061) rfl) rfl, lwG_in (List.mem_of_getElem? (i := 1062) rfl) rfl, lwG_in (List.mem_of_getElem? (i := 1063) rfl) rfl⟩
set_option maxRecDepth 100000 in
theorem lk_10_419 : LkV 10 419 m_Pa_rowAsDigits 0 := ⟨lc_Pa_rowAsDigits, lwG_in (List.mem_of_getElem? (i := 1057) rfl) rfl, lwG_in (List.mem_of_getElem? (i := 1058) rfl) rfl, lwG_in (List.mem_of_getElem? (i := 1059) rfl) rfl⟩
set_option maxRecDepth 100000 in
theorem lk_10_416 : LkV 10 416 m_Pa_fitsAll 0 := ⟨lc_Pa_fitsAll, lwG_in (List.mem_of_getElem? (i := 1053) rfl) rfl, lwG_in (List.mem_of_getElem? (i := 1054) rfl) rfl, lwG_in (List.mem_of_getElem? (i := 1055) rfl) rfl⟩
set_option maxRecDepth 100000 in
theorem B_FB_history_0 {Γ : XG} {d : Nat} {Q : Option Value → XM → Prop} {r0 : Nat} {x1 x2 : Int32} {μ : XM} (o_r0_10 : ob μ r0 10) (h : Call Γ m_FB_hasHouse d [.ref r0] μ (KI (fun v1 μ1 => ((v1 = w 0 → Q (some (.int (w (-1)))) μ1) ∧ (¬ v1 = w 0 → ((x2 < w (-1) → Q (some (.int (w (-1)))) μ1) ∧ (¬ x2 < w (-1) → ∃ a2, xR μ1 r0 15 = some a2 ∧ ∃ a3, xR μ1 r0 1 = some a3 ∧ ob μ1 a3 1 ∧ ob μ1 a2 5 ∧ Call Γ m_Pa_startRows d [.ref a2, .int x1, .int (xI μ1 a3 4)] μ1 (KI (fun v4 μ4 => ((v4 = w 0 → Q (some (.int (w (-1)))) μ4) ∧ (¬ v4 = w 0 → G Γ m_FB_history (d + 1) (0, 0) Q 40 [.ref r0, jk, .int x2, .int (w 0), .int (w 1), .int (w 0)] [] μ4))))))))))) : G Γ m_FB_history (d + 1) (0, 0) Q 0 [.ref r0, .int x1, .int x2] [] μ := by
  refine run_ok (pc' := 1) [(.aload_n 0, 0, 0, 0)] _ _ _ _ (by decide +kernel) ?_
  show G Γ m_FB_history (d + 1) (0, 0) Q 1 [.ref r0, .int x1, .int x2] [.ref r0] μ
  refine g_invV (M' := m_FB_hasHouse) (b1 := 0) (b2 := 0) (As := []) (a := r0) (st := []) lk_10_162 (by decide +kernel) rfl (dk_FB_hasHouse d) (Nat.le_of_ble_eq_true rfl) (Or.inl ⟨10, o_r0_10, rfl⟩) h ?_
  rintro _ μ1 ⟨v1, rfl, h⟩ hn1
  show G Γ m_FB_history (d + 1) (0, 0) Q 4 [.ref r0, .int x1, .int x2] [.int v1] μ1
  refine g_ifz_eq (pc' := 30) (off := 26) (by decide) (by decide +kernel) (fun hc => ?_) (fun hc => ?_)
  · replace h := h.1 hc
    show G Γ m_FB_history (d + 1) (0, 0) Q 30 [.ref r0, .int x1, .int x2] [] μ1
    refine run_ok (pc' := 31) [(.iconst (-1), 0, 0, 0)] _ _ _ _ (by decide +kernel) ?_
    show G Γ m_FB_history (d + 1) (0, 0) Q 31 [.ref r0, .int x1, .int x2] [.int (w (-1))] μ1
    exact g_reti (by decide +kernel) rfl h
  · replace h := h.2 hc
    show G Γ m_FB_history (d + 1) (0, 0) Q 7 [.ref r0, .int x1, .int x2] [] μ1
    refine run_ok (pc' := 9) [(.iload_n 2, 0, 0, 0), (.iconst (-1), 0, 0, 0)] _ _ _ _ (by decide +kernel) ?_
    show G Γ m_FB_history (d + 1) (0, 0) Q 9 [.ref r0, .int x1, .int x2] [.int (w (-1)), .int x2] μ1
    refine g_icmp_lt (pc' := 30) (off := 21) (by decide) (by decide +kernel) (fun hc => ?_) (fun hc => ?_)
    · replace h := h.1 hc
      show G Γ m_FB_history (d + 1) (0, 0) Q 30 [.ref r0, .int x1, .int x2] [] μ1
      refine run_ok (pc' := 31) [(.iconst (-1), 0, 0, 0)] _ _ _ _ (by decide +kernel) ?_
      show G Γ m_FB_history (d + 1) (0, 0) Q 31 [.ref r0, .int x1, .int x2] [.int (w (-1))] μ1
      exact g_reti (by decide +kernel) rfl h
    · replace h := h.2 hc
      show G Γ m_FB_history (d + 1) (0, 0) Q 12 [.ref r0, .int x1, .int x2] [] μ1
      obtain ⟨a2, ea2, h⟩ := h
      obtain ⟨a3, ea3, h⟩ := h
      obtain ⟨o_a3_1, h⟩ := h
      refine run_ok (pc' := 24) [(.aload_n 0, 0, 0, 0), (.getfield 86, 10, 15, 2), (.iload_n 1, 0, 0, 0), (.aload_n 0, 0, 0, 0), (.getfield 19, 10, 1, 2), (.getfield 161, 1, 4, 0)] _ _ _ _ (by decide +kernel) ?_
      show _ ∧ (∃ _, _ ∧ (_ ∧ (∃ _, _ ∧ (_ ∧ (_)))))
      refine ⟨((o_r0_10).mono hn1), a2, ea2, ((o_r0_10).mono hn1), a3, ea3, o_a3_1, ?_⟩
      show G Γ m_FB_history (d + 1) (0, 0) Q 24 [.ref r0, .int x1, .int x2] [.int (xI μ1 a3 4), .int x1, .ref a2] μ1
      obtain ⟨o_a2_5, h⟩ := h
      refine g_invV (M' := m_Pa_startRows) (b1 := 0) (b2 := 0) (As := [.int x1, .int (xI μ1 a3 4)]) (a := a2) (st := []) lk_10_413 (by decide +kernel) rfl (dk_Pa_startRows d) (Nat.le_of_ble_eq_true rfl) (Or.inl ⟨5, o_a2_5, rfl⟩) h ?_
      rintro _ μ4 ⟨v4, rfl, h⟩ hn4
      show G Γ m_FB_history (d + 1) (0, 0) Q 27 [.ref r0, .int x1, .int x2] [.int v4] μ4
      refine g_ifz_ne (pc' := 32) (off := 5) (by decide) (by decide +kernel) (fun hc => ?_) (fun hc => ?_)
      · replace h := h.2 hc
        show G Γ m_FB_history (d + 1) (0, 0) Q 32 [.ref r0, .int x1, .int x2] [] μ4
        refine run_ok (pc' := 40) [(.iconst 0, 0, 0, 0), (.istore_n 3, 0, 0, 0), (.iconst 1, 0, 0, 0), (.istore 4, 0, 0, 0), (.iconst 0, 0, 0, 0), (.istore 5, 0, 0, 0)] _ _ _ _ (by decide +kernel) ?_
        show G Γ m_FB_history (d + 1) (0, 0) Q 40 [.ref r0, .int x1, .int x2, .int (w 0), .int (w 1), .int (w 0)] [] μ4
        exact g_wk (ls' := [.ref r0, jk, .int x2, .int (w 0), .int (w 1), .int (w 0)]) ⟨Or.inr rfl, Or.inl rfl, Or.inr rfl, Or.inr rfl, Or.inr rfl, Or.inr rfl, trivial⟩ h
      · replace h := h.1 hc
        show G Γ m_FB_history (d + 1) (0, 0) Q 30 [.ref r0, .int x1, .int x2] [] μ4
        refine run_ok (pc' := 31) [(.iconst (-1), 0, 0, 0)] _ _ _ _ (by decide +kernel) ?_
        show G Γ m_FB_history (d + 1) (0, 0) Q 31 [.ref r0, .int x1, .int x2] [.int (w (-1))] μ4
        exact g_reti (by decide +kernel) rfl h
set_option maxRecDepth 100000 in
theorem B_FB_history_40 {Γ : XG} {d : Nat} {Q : Option Value → XM → Prop} {r0 r0_15 : Nat} {x2 x3 x4 x5 : Int32} {μ : XM} (o_r0_10 : ob μ r0 10) (e_r0_15 : xR μ r0 15 = some r0_15) (o_r0_15_5 : ob μ r0_15 5) (h : ((x5 < w 720 → ((x4 = w 0 → ((x2 = w (-1) → Q (some (.int x3)) μ) ∧ (¬ x2 = w (-1) → Q (some (.int (w (-1)))) μ))) ∧ (¬ x4 = w 0 → Call Γ m_Pa_fitsAll d [.ref r0_15] μ (KI (fun v1 μ1 => ((v1 = w 0 → xR μ1 r0 15 = some r0_15 ∧ Call Γ m_Pa_nextRow d [.ref r0_15] μ1 (KI (fun v3 μ3 => G Γ m_FB_history (d + 1) (0, 0) Q 40 [.ref r0, jk, .int x2, .int x3, .int v3, .int (x5 + w 1)] [] μ3))) ∧ (¬ v1 = w 0 → ((x3 = x2 → xR μ1 r0 15 = some r0_15 ∧ Call Γ m_Pa_rowAsDigits d [.ref r0_15] μ1 (KI (fun v7 μ7 => Q (some (.int v7)) μ7))) ∧ (¬ x3 = x2 → xR μ1 r0 15 = some r0_15 ∧ Call Γ m_Pa_nextRow d [.ref r0_15] μ1 (KI (fun v5 μ5 => G Γ m_FB_history (d + 1) (0, 0) Q 40 [.ref r0, jk, .int x2, .int (x3 + w 1), .int v5, .int (x5 + w 1)] [] μ5))))))))))) ∧ (¬ x5 < w 720 → ((x2 = w (-1) → Q (some (.int x3)) μ) ∧ (¬ x2 = w (-1) → Q (some (.int (w (-1)))) μ))))) : G Γ m_FB_history (d + 1) (0, 0) Q 40 [.ref r0, jk, .int x2, .int x3, .int x4, .int x5] [] μ := by
  refine run_ok (pc' := 45) [(.iload 5, 0, 0, 0), (.sipush 720, 0, 0, 0)] _ _ _ _ (by decide +kernel) ?_
  show G Γ m_FB_history (d + 1) (0, 0) Q 45 [.ref r0, jk, .int x2, .int x3, .int x4, .int x5] [.int (w 720), .int x5] μ
  refine g_icmp_ge (pc' := 94) (off := 49) (by decide) (by decide +kernel) (fun hc => ?_) (fun hc => ?_)
  · replace h := h.2 hc
    show G Γ m_FB_history (d + 1) (0, 0) Q 94 [.ref r0, jk, .int x2, .int x3, .int x4, .int x5] [] μ
    refine run_ok (pc' := 96) [(.iload_n 2, 0, 0, 0), (.iconst (-1), 0, 0, 0)] _ _ _ _ (by decide +kernel) ?_
    show G Γ m_FB_history (d + 1) (0, 0) Q 96 [.ref r0, jk, .int x2, .int x3, .int x4, .int x5] [.int (w (-1)), .int x2] μ
    refine g_icmp_ne (pc' := 103) (off := 7) (by decide) (by decide +kernel) (fun hc => ?_) (fun hc => ?_)
    · replace h := h.2 hc
      show G Γ m_FB_history (d + 1) (0, 0) Q 103 [.ref r0, jk, .int x2, .int x3, .int x4, .int x5] [] μ
      refine run_ok (pc' := 104) [(.iconst (-1), 0, 0, 0)] _ _ _ _ (by decide +kernel) ?_
      show G Γ m_FB_history (d + 1) (0, 0) Q 104 [.ref r0, jk, .int x2, .int x3, .int x4, .int x5] [.int (w (-1))] μ
      exact g_reti (by decide +kernel) rfl h
    · replace h := h.1 hc
      show G Γ m_FB_history (d + 1) (0, 0) Q 99 [.ref r0, jk, .int x2, .int x3, .int x4, .int x5] [] μ
      refine run_ok (pc' := 104) [(.iload_n 3, 0, 0, 0), (.goto 4, 0, 0, 0)] _ _ _ _ (by decide +kernel) ?_
      show G Γ m_FB_history (d + 1) (0, 0) Q 104 [.ref r0, jk, .int x2, .int x3, .int x4, .int x5] [.int x3] μ
      exact g_reti (by decide +kernel) rfl h
  · replace h := h.1 hc
    show G Γ m_FB_history (d + 1) (0, 0) Q 48 [.ref r0, jk, .int x2, .int x3, .int x4, .int x5] [] μ
    refine run_ok (pc' := 50) [(.iload 4, 0, 0, 0)] _ _ _ _ (by decide +kernel) ?_
    show G Γ m_FB_history (d + 1) (0, 0) Q 50 [.ref r0, jk, .int x2, .int x3, .int x4, .int x5] [.int x4] μ
    refine g_ifz_eq (pc' := 94) (off := 44) (by decide) (by decide +kernel) (fun hc => ?_) (fun hc => ?_)
    · replace h := h.1 hc
      show G Γ m_FB_history (d + 1) (0, 0) Q 94 [.ref r0, jk, .int x2, .int x3, .int x4, .int x5] [] μ
      refine run_ok (pc' := 96) [(.iload_n 2, 0, 0, 0), (.iconst (-1), 0, 0, 0)] _ _ _ _ (by decide +kernel) ?_
      show G Γ m_FB_history (d + 1) (0, 0) Q 96 [.ref r0, jk, .int x2, .int x3, .int x4, .int x5] [.int (w (-1)), .int x2] μ
      refine g_icmp_ne (pc' := 103) (off := 7) (by decide) (by decide +kernel) (fun hc => ?_) (fun hc => ?_)
      · replace h := h.2 hc
        show G Γ m_FB_history (d + 1) (0, 0) Q 103 [.ref r0, jk, .int x2, .int x3, .int x4, .int x5] [] μ
        refine run_ok (pc' := 104) [(.iconst (-1), 0, 0, 0)] _ _ _ _ (by decide +kernel) ?_
        show G Γ m_FB_history (d + 1) (0, 0) Q 104 [.ref r0, jk, .int x2, .int x3, .int x4, .int x5] [.int (w (-1))] μ
        exact g_reti (by decide +kernel) rfl h
      · replace h := h.1 hc
        show G Γ m_FB_history (d + 1) (0, 0) Q 99 [.ref r0, jk, .int x2, .int x3, .int x4, .int x5] [] μ
        refine run_ok (pc' := 104) [(.iload_n 3, 0, 0, 0), (.goto 4, 0, 0, 0)] _ _ _ _ (by decide +kernel) ?_
        show G Γ m_FB_history (d + 1) (0, 0) Q 104 [.ref r0, jk, .int x2, .int x3, .int x4, .int x5] [.int x3] μ
        exact g_reti (by decide +kernel) rfl h
    · replace h := h.2 hc
      show G Γ m_FB_history (d + 1) (0, 0) Q 53 [.ref r0, jk, .int x2, .int x3, .int x4, .int x5] [] μ
      refine run_ok (pc' := 57) [(.aload_n 0, 0, 0, 0), (.getfield 86, 10, 15, 2)] _ _ _ _ (by decide +kernel) ?_
      show _ ∧ (∃ _, _ ∧ (_))
      refine ⟨o_r0_10, r0_15, e_r0_15, ?_⟩
      show G Γ m_FB_history (d + 1) (0, 0) Q 57 [.ref r0, jk, .int x2, .int x3, .int x4, .int x5] [.ref r0_15] μ
      refine g_invV (M' := m_Pa_fitsAll) (b1 := 0) (b2 := 0) (As := []) (a := r0_15) (st := []) lk_10_416 (by decide +kernel) rfl (dk_Pa_fitsAll d) (Nat.le_of_ble_eq_true rfl) (Or.inl ⟨5, o_r0_15_5, rfl⟩) h ?_
      rintro _ μ1 ⟨v1, rfl, h⟩ hn1
      show G Γ m_FB_history (d + 1) (0, 0) Q 60 [.ref r0, jk, .int x2, .int x3, .int x4, .int x5] [.int v1] μ1
      refine g_ifz_eq (pc' := 79) (off := 19) (by decide) (by decide +kernel) (fun hc => ?_) (fun hc => ?_)
      · replace h := h.1 hc
        show G Γ m_FB_history (d + 1) (0, 0) Q 79 [.ref r0, jk, .int x2, .int x3, .int x4, .int x5] [] μ1
        obtain ⟨ea2, h⟩ := h
        refine run_ok (pc' := 83) [(.aload_n 0, 0, 0, 0), (.getfield 86, 10, 15, 2)] _ _ _ _ (by decide +kernel) ?_
        show _ ∧ (∃ _, _ ∧ (_))
        refine ⟨((o_r0_10).mono hn1), r0_15, ea2, ?_⟩
        show G Γ m_FB_history (d + 1) (0, 0) Q 83 [.ref r0, jk, .int x2, .int x3, .int x4, .int x5] [.ref r0_15] μ1
        refine g_invV (M' := m_Pa_nextRow) (b1 := 0) (b2 := 0) (As := []) (a := r0_15) (st := []) lk_10_422 (by decide +kernel) rfl (dk_Pa_nextRow d) (Nat.le_of_ble_eq_true rfl) (Or.inl ⟨5, ((o_r0_15_5).mono hn1), rfl⟩) h ?_
        rintro _ μ3 ⟨v3, rfl, h⟩ hn3
        show G Γ m_FB_history (d + 1) (0, 0) Q 86 [.ref r0, jk, .int x2, .int x3, .int x4, .int x5] [.int v3] μ3
        refine run_ok (pc' := 40) [(.istore 4, 0, 0, 0), (.iinc 5 1, 0, 0, 0), (.goto (-51), 0, 0, 0)] _ _ _ _ (by decide +kernel) ?_
        show G Γ m_FB_history (d + 1) (0, 0) Q 40 [.ref r0, jk, .int x2, .int x3, .int v3, .int (x5 + w 1)] [] μ3
        exact h
      · replace h := h.2 hc
        show G Γ m_FB_history (d + 1) (0, 0) Q 63 [.ref r0, jk, .int x2, .int x3, .int x4, .int x5] [] μ1
        refine run_ok (pc' := 65) [(.iload_n 3, 0, 0, 0), (.iload_n 2, 0, 0, 0)] _ _ _ _ (by decide +kernel) ?_
        show G Γ m_FB_history (d + 1) (0, 0) Q 65 [.ref r0, jk, .int x2, .int x3, .int x4, .int x5] [.int x2, .int x3] μ1
        refine g_icmp_ne (pc' := 76) (off := 11) (by decide) (by decide +kernel) (fun hc => ?_) (fun hc => ?_)
        · replace h := h.2 hc
          show G Γ m_FB_history (d + 1) (0, 0) Q 76 [.ref r0, jk, .int x2, .int x3, .int x4, .int x5] [] μ1
          obtain ⟨ea4, h⟩ := h
          refine run_ok (pc' := 83) [(.iinc 3 1, 0, 0, 0), (.aload_n 0, 0, 0, 0), (.getfield 86, 10, 15, 2)] _ _ _ _ (by decide +kernel) ?_
          show _ ∧ (∃ _, _ ∧ (_))
          refine ⟨((o_r0_10).mono hn1), r0_15, ea4, ?_⟩
          show G Γ m_FB_history (d + 1) (0, 0) Q 83 [.ref r0, jk, .int x2, .int (x3 + w 1), .int x4, .int x5] [.ref r0_15] μ1
          refine g_invV (M' := m_Pa_nextRow) (b1 := 0) (b2 := 0) (As := []) (a := r0_15) (st := []) lk_10_422 (by decide +kernel) rfl (dk_Pa_nextRow d) (Nat.le_of_ble_eq_true rfl) (Or.inl ⟨5, ((o_r0_15_5).mono hn1), rfl⟩) h ?_
          rintro _ μ5 ⟨v5, rfl, h⟩ hn5
          show G Γ m_FB_history (d + 1) (0, 0) Q 86 [.ref r0, jk, .int x2, .int (x3 + w 1), .int x4, .int x5] [.int v5] μ5
          refine run_ok (pc' := 40) [(.istore 4, 0, 0, 0), (.iinc 5 1, 0, 0, 0), (.goto (-51), 0, 0, 0)] _ _ _ _ (by decide +kernel) ?_
          show G Γ m_FB_history (d + 1) (0, 0) Q 40 [.ref r0, jk, .int x2, .int (x3 + w 1), .int v5, .int (x5 + w 1)] [] μ5
          exact h
        · replace h := h.1 hc
          show G Γ m_FB_history (d + 1) (0, 0) Q 68 [.ref r0, jk, .int x2, .int x3, .int x4, .int x5] [] μ1
          obtain ⟨ea6, h⟩ := h
          refine run_ok (pc' := 72) [(.aload_n 0, 0, 0, 0), (.getfield 86, 10, 15, 2)] _ _ _ _ (by decide +kernel) ?_
          show _ ∧ (∃ _, _ ∧ (_))
          refine ⟨((o_r0_10).mono hn1), r0_15, ea6, ?_⟩
          show G Γ m_FB_history (d + 1) (0, 0) Q 72 [.ref r0, jk, .int x2, .int x3, .int x4, .int x5] [.ref r0_15] μ1
          refine g_invV (M' := m_Pa_rowAsDigits) (b1 := 0) (b2 := 0) (As := []) (a := r0_15) (st := []) lk_10_419 (by decide +kernel) rfl (dk_Pa_rowAsDigits d) (Nat.le_of_ble_eq_true rfl) (Or.inl ⟨5, ((o_r0_15_5).mono hn1), rfl⟩) h ?_
          rintro _ μ7 ⟨v7, rfl, h⟩ hn7
          show G Γ m_FB_history (d + 1) (0, 0) Q 75 [.ref r0, jk, .int x2, .int x3, .int x4, .int x5] [.int v7] μ7
          exact g_reti (by decide +kernel) rfl h
/-! FrostBox share(I)I -/
set_option maxRecDepth 100000 in
theorem lk_10_428 : LkV 10 428 m_Pa_likeKept 0 := ⟨lc_Pa_likeKept, lwG_in (List.mem_of_getElem? (i := 1078) rfl) rfl, lwG_in (List.mem_of_getElem? (i := 1079) rfl) rfl, lwG_in (List.mem_of_getElem? (i := 1080) rfl) rfl⟩
set_option maxRecDepth 100000 in
theorem lk_10_425 : LkV 10 425 m_Pa_keepRow 0 := ⟨lc_Pa_keepRow, lwG_in (List.mem_of_getElem? (i := 1073) rfl) rfl, lwG_in (List.mem_of_getElem? (i := 1074) rfl) rfl, lwG_in (List.mem_of_getElem? (i := 1075) rfl) rfl⟩
set_option maxRecDepth 100000 in
theorem B_FB_share_0 {Γ : XG} {d : Nat} {Q : Option Value → XM → Prop} {r0 : Nat} {x1 : Int32} {μ : XM} (o_r0_10 : ob μ r0 10) (h : Call Γ m_FB_hasHouse d [.ref r0] μ (KI (fun v1 μ1 => ((v1 = w 0 → Q (some (.int (w (-1)))) μ1) ∧ (¬ v1 = w 0 → ∃ a2, xR μ1 r0 15 = some a2 ∧ ∃ a3, xR μ1 r0 1 = some a3 ∧ ob μ1 a3 1 ∧ ob μ1 a2 5 ∧ Call Γ m_Pa_startRows d [.ref a2, .int x1, .int (xI μ1 a3 4)] μ1 (KI (fun v4 μ4 => ((v4 = w 0 → Q (some (.int (w (-1)))) μ4) ∧ (¬ v4 = w 0 → G Γ m_FB_share (d + 1) (0, 0) Q 34 [.ref r0, jk, .int (w (-1)), .int (w 1), .int (w 0)] [] μ4))))))))) : G Γ m_FB_share (d + 1) (0, 0) Q 0 [.ref r0, .int x1] [] μ := by
  refine run_ok (pc' := 1) [(.aload_n 0, 0, 0, 0)] _ _ _ _ (by decide +kernel) ?_
  show G Γ m_FB_share (d + 1) (0, 0) Q 1 [.ref r0, .int x1] [.ref r0] μ
  refine g_invV (M' := m_FB_hasHouse) (b1 := 0) (b2 := 0) (As := []) (a := r0) (st := []) lk_10_162 (by decide +kernel) rfl (dk_FB_hasHouse d) (Nat.le_of_ble_eq_true rfl) (Or.inl ⟨10, o_r0_10, rfl⟩) h ?_
  rintro _ μ1 ⟨v1, rfl, h⟩ hn1
  show G Γ m_FB_share (d + 1) (0, 0) Q 4 [.ref r0, .int x1] [.int v1] μ1
  refine g_ifz_eq (pc' := 25) (off := 21) (by decide) (by decide +kernel) (fun hc => ?_) (fun hc => ?_)
  · replace h := h.1 hc
    show G Γ m_FB_share (d + 1) (0, 0) Q 25 [.ref r0, .int x1] [] μ1
    refine run_ok (pc' := 26) [(.iconst (-1), 0, 0, 0)] _ _ _ _ (by decide +kernel) ?_
    show G Γ m_FB_share (d + 1) (0, 0) Q 26 [.ref r0, .int x1] [.int (w (-1))] μ1
    exact g_reti (by decide +kernel) rfl h
  · replace h := h.2 hc
    show G Γ m_FB_share (d + 1) (0, 0) Q 7 [.ref r0, .int x1] [] μ1
    obtain ⟨a2, ea2, h⟩ := h
    obtain ⟨a3, ea3, h⟩ := h
    obtain ⟨o_a3_1, h⟩ := h
    refine run_ok (pc' := 19) [(.aload_n 0, 0, 0, 0), (.getfield 86, 10, 15, 2), (.iload_n 1, 0, 0, 0), (.aload_n 0, 0, 0, 0), (.getfield 19, 10, 1, 2), (.getfield 161, 1, 4, 0)] _ _ _ _ (by decide +kernel) ?_
    show _ ∧ (∃ _, _ ∧ (_ ∧ (∃ _, _ ∧ (_ ∧ (_)))))
    refine ⟨((o_r0_10).mono hn1), a2, ea2, ((o_r0_10).mono hn1), a3, ea3, o_a3_1, ?_⟩
    show G Γ m_FB_share (d + 1) (0, 0) Q 19 [.ref r0, .int x1] [.int (xI μ1 a3 4), .int x1, .ref a2] μ1
    obtain ⟨o_a2_5, h⟩ := h
    refine g_invV (M' := m_Pa_startRows) (b1 := 0) (b2 := 0) (As := [.int x1, .int (xI μ1 a3 4)]) (a := a2) (st := []) lk_10_413 (by decide +kernel) rfl (dk_Pa_startRows d) (Nat.le_of_ble_eq_true rfl) (Or.inl ⟨5, o_a2_5, rfl⟩) h ?_
    rintro _ μ4 ⟨v4, rfl, h⟩ hn4
    show G Γ m_FB_share (d + 1) (0, 0) Q 22 [.ref r0, .int x1] [.int v4] μ4
    refine g_ifz_ne (pc' := 27) (off := 5) (by decide) (by decide +kernel) (fun hc => ?_) (fun hc => ?_)
    · replace h := h.2 hc
      show G Γ m_FB_share (d + 1) (0, 0) Q 27 [.ref r0, .int x1] [] μ4
      refine run_ok (pc' := 34) [(.iconst (-1), 0, 0, 0), (.istore_n 2, 0, 0, 0), (.iconst 1, 0, 0, 0), (.istore_n 3, 0, 0, 0), (.iconst 0, 0, 0, 0), (.istore 4, 0, 0, 0)] _ _ _ _ (by decide +kernel) ?_
      show G Γ m_FB_share (d + 1) (0, 0) Q 34 [.ref r0, .int x1, .int (w (-1)), .int (w 1), .int (w 0)] [] μ4
      exact g_wk (ls' := [.ref r0, jk, .int (w (-1)), .int (w 1), .int (w 0)]) ⟨Or.inr rfl, Or.inl rfl, Or.inr rfl, Or.inr rfl, Or.inr rfl, trivial⟩ h
    · replace h := h.1 hc
      show G Γ m_FB_share (d + 1) (0, 0) Q 25 [.ref r0, .int x1] [] μ4
      refine run_ok (pc' := 26) [(.iconst (-1), 0, 0, 0)] _ _ _ _ (by decide +kernel) ?_
      show G Γ m_FB_share (d + 1) (0, 0) Q 26 [.ref r0, .int x1] [.int (w (-1))] μ4
      exact g_reti (by decide +kernel) rfl h
set_option maxRecDepth 100000 in
theorem B_FB_share_34 {Γ : XG} {d : Nat} {Q : Option Value → XM → Prop} {r0 r0_15 : Nat} {x2 x3 x4 : Int32} {μ : XM} (o_r0_10 : ob μ r0 10) (e_r0_15 : xR μ r0 15 = some r0_15) (o_r0_15_5 : ob μ r0_15 5) (h : ((x4 < w 720 → ((x3 = w 0 → Q (some (.int x2)) μ) ∧ (¬ x3 = w 0 → Call Γ m_Pa_fitsAll d [.ref r0_15] μ (KI (fun v1 μ1 => ((v1 = w 0 → xR μ1 r0 15 = some r0_15 ∧ Call Γ m_Pa_nextRow d [.ref r0_15] μ1 (KI (fun v3 μ3 => G Γ m_FB_share (d + 1) (0, 0) Q 34 [.ref r0, jk, .int x2, .int v3, .int (x4 + w 1)] [] μ3))) ∧ (¬ v1 = w 0 → ((x2 = w (-1) → xR μ1 r0 15 = some r0_15 ∧ Call Γ m_Pa_keepRow d [.ref r0_15] μ1 (KI (fun v9 μ9 => xR μ9 r0 15 = some r0_15 ∧ Call Γ m_Pa_nextRow d [.ref r0_15] μ9 (KI (fun v11 μ11 => G Γ m_FB_share (d + 1) (0, 0) Q 34 [.ref r0, jk, .int v9, .int v11, .int (x4 + w 1)] [] μ11))))) ∧ (¬ x2 = w (-1) → xR μ1 r0 15 = some r0_15 ∧ Call Γ m_Pa_likeKept d [.ref r0_15] μ1 (KI (fun v5 μ5 => xR μ5 r0 15 = some r0_15 ∧ Call Γ m_Pa_nextRow d [.ref r0_15] μ5 (KI (fun v7 μ7 => G Γ m_FB_share (d + 1) (0, 0) Q 34 [.ref r0, jk, .int (x2 &&& v5), .int v7, .int (x4 + w 1)] [] μ7))))))))))))) ∧ (¬ x4 < w 720 → Q (some (.int x2)) μ))) : G Γ m_FB_share (d + 1) (0, 0) Q 34 [.ref r0, jk, .int x2, .int x3, .int x4] [] μ := by
  refine run_ok (pc' := 39) [(.iload 4, 0, 0, 0), (.sipush 720, 0, 0, 0)] _ _ _ _ (by decide +kernel) ?_
  show G Γ m_FB_share (d + 1) (0, 0) Q 39 [.ref r0, jk, .int x2, .int x3, .int x4] [.int (w 720), .int x4] μ
  refine g_icmp_ge (pc' := 95) (off := 56) (by decide) (by decide +kernel) (fun hc => ?_) (fun hc => ?_)
  · replace h := h.2 hc
    show G Γ m_FB_share (d + 1) (0, 0) Q 95 [.ref r0, jk, .int x2, .int x3, .int x4] [] μ
    refine run_ok (pc' := 96) [(.iload_n 2, 0, 0, 0)] _ _ _ _ (by decide +kernel) ?_
    show G Γ m_FB_share (d + 1) (0, 0) Q 96 [.ref r0, jk, .int x2, .int x3, .int x4] [.int x2] μ
    exact g_reti (by decide +kernel) rfl h
  · replace h := h.1 hc
    show G Γ m_FB_share (d + 1) (0, 0) Q 42 [.ref r0, jk, .int x2, .int x3, .int x4] [] μ
    refine run_ok (pc' := 43) [(.iload_n 3, 0, 0, 0)] _ _ _ _ (by decide +kernel) ?_
    show G Γ m_FB_share (d + 1) (0, 0) Q 43 [.ref r0, jk, .int x2, .int x3, .int x4] [.int x3] μ
    refine g_ifz_eq (pc' := 95) (off := 52) (by decide) (by decide +kernel) (fun hc => ?_) (fun hc => ?_)
    · replace h := h.1 hc
      show G Γ m_FB_share (d + 1) (0, 0) Q 95 [.ref r0, jk, .int x2, .int x3, .int x4] [] μ
      refine run_ok (pc' := 96) [(.iload_n 2, 0, 0, 0)] _ _ _ _ (by decide +kernel) ?_
      show G Γ m_FB_share (d + 1) (0, 0) Q 96 [.ref r0, jk, .int x2, .int x3, .int x4] [.int x2] μ
      exact g_reti (by decide +kernel) rfl h
    · replace h := h.2 hc
      show G Γ m_FB_share (d + 1) (0, 0) Q 46 [.ref r0, jk, .int x2, .int x3, .int x4] [] μ
      refine run_ok (pc' := 50) [(.aload_n 0, 0, 0, 0), (.getfield 86, 10, 15, 2)] _ _ _ _ (by decide +kernel) ?_
      show _ ∧ (∃ _, _ ∧ (_))
      refine ⟨o_r0_10, r0_15, e_r0_15, ?_⟩
      show G Γ m_FB_share (d + 1) (0, 0) Q 50 [.ref r0, jk, .int x2, .int x3, .int x4] [.ref r0_15] μ
      refine g_invV (M' := m_Pa_fitsAll) (b1 := 0) (b2 := 0) (As := []) (a := r0_15) (st := []) lk_10_416 (by decide +kernel) rfl (dk_Pa_fitsAll d) (Nat.le_of_ble_eq_true rfl) (Or.inl ⟨5, o_r0_15_5, rfl⟩) h ?_
      rintro _ μ1 ⟨v1, rfl, h⟩ hn1
      show G Γ m_FB_share (d + 1) (0, 0) Q 53 [.ref r0, jk, .int x2, .int x3, .int x4] [.int v1] μ1
      refine g_ifz_eq (pc' := 81) (off := 28) (by decide) (by decide +kernel) (fun hc => ?_) (fun hc => ?_)
      · replace h := h.1 hc
        show G Γ m_FB_share (d + 1) (0, 0) Q 81 [.ref r0, jk, .int x2, .int x3, .int x4] [] μ1
        obtain ⟨ea2, h⟩ := h
        refine run_ok (pc' := 85) [(.aload_n 0, 0, 0, 0), (.getfield 86, 10, 15, 2)] _ _ _ _ (by decide +kernel) ?_
        show _ ∧ (∃ _, _ ∧ (_))
        refine ⟨((o_r0_10).mono hn1), r0_15, ea2, ?_⟩
        show G Γ m_FB_share (d + 1) (0, 0) Q 85 [.ref r0, jk, .int x2, .int x3, .int x4] [.ref r0_15] μ1
        refine g_invV (M' := m_Pa_nextRow) (b1 := 0) (b2 := 0) (As := []) (a := r0_15) (st := []) lk_10_422 (by decide +kernel) rfl (dk_Pa_nextRow d) (Nat.le_of_ble_eq_true rfl) (Or.inl ⟨5, ((o_r0_15_5).mono hn1), rfl⟩) h ?_
        rintro _ μ3 ⟨v3, rfl, h⟩ hn3
        show G Γ m_FB_share (d + 1) (0, 0) Q 88 [.ref r0, jk, .int x2, .int x3, .int x4] [.int v3] μ3
        refine run_ok (pc' := 34) [(.istore_n 3, 0, 0, 0), (.iinc 4 1, 0, 0, 0), (.goto (-58), 0, 0, 0)] _ _ _ _ (by decide +kernel) ?_
        show G Γ m_FB_share (d + 1) (0, 0) Q 34 [.ref r0, jk, .int x2, .int v3, .int (x4 + w 1)] [] μ3
        exact h
      · replace h := h.2 hc
        show G Γ m_FB_share (d + 1) (0, 0) Q 56 [.ref r0, jk, .int x2, .int x3, .int x4] [] μ1
        refine run_ok (pc' := 58) [(.iload_n 2, 0, 0, 0), (.iconst (-1), 0, 0, 0)] _ _ _ _ (by decide +kernel) ?_
        show G Γ m_FB_share (d + 1) (0, 0) Q 58 [.ref r0, jk, .int x2, .int x3, .int x4] [.int (w (-1)), .int x2] μ1
        refine g_icmp_ne (pc' := 71) (off := 13) (by decide) (by decide +kernel) (fun hc => ?_) (fun hc => ?_)
        · replace h := h.2 hc
          show G Γ m_FB_share (d + 1) (0, 0) Q 71 [.ref r0, jk, .int x2, .int x3, .int x4] [] μ1
          obtain ⟨ea4, h⟩ := h
          refine run_ok (pc' := 76) [(.iload_n 2, 0, 0, 0), (.aload_n 0, 0, 0, 0), (.getfield 86, 10, 15, 2)] _ _ _ _ (by decide +kernel) ?_
          show _ ∧ (∃ _, _ ∧ (_))
          refine ⟨((o_r0_10).mono hn1), r0_15, ea4, ?_⟩
          show G Γ m_FB_share (d + 1) (0, 0) Q 76 [.ref r0, jk, .int x2, .int x3, .int x4] [.ref r0_15, .int x2] μ1
          refine g_invV (M' := m_Pa_likeKept) (b1 := 0) (b2 := 0) (As := []) (a := r0_15) (st := [.int x2]) lk_10_428 (by decide +kernel) rfl (dk_Pa_likeKept d) (Nat.le_of_ble_eq_true rfl) (Or.inl ⟨5, ((o_r0_15_5).mono hn1), rfl⟩) h ?_
          rintro _ μ5 ⟨v5, rfl, h⟩ hn5
          show G Γ m_FB_share (d + 1) (0, 0) Q 79 [.ref r0, jk, .int x2, .int x3, .int x4] [.int v5, .int x2] μ5
          obtain ⟨ea6, h⟩ := h
          refine run_ok (pc' := 85) [(.iand, 0, 0, 0), (.istore_n 2, 0, 0, 0), (.aload_n 0, 0, 0, 0), (.getfield 86, 10, 15, 2)] _ _ _ _ (by decide +kernel) ?_
          show _ ∧ (∃ _, _ ∧ (_))
          refine ⟨(((o_r0_10).mono hn1).mono hn5), r0_15, ea6, ?_⟩
          show G Γ m_FB_share (d + 1) (0, 0) Q 85 [.ref r0, jk, .int (x2 &&& v5), .int x3, .int x4] [.ref r0_15] μ5
          refine g_invV (M' := m_Pa_nextRow) (b1 := 0) (b2 := 0) (As := []) (a := r0_15) (st := []) lk_10_422 (by decide +kernel) rfl (dk_Pa_nextRow d) (Nat.le_of_ble_eq_true rfl) (Or.inl ⟨5, (((o_r0_15_5).mono hn1).mono hn5), rfl⟩) h ?_
          rintro _ μ7 ⟨v7, rfl, h⟩ hn7
          show G Γ m_FB_share (d + 1) (0, 0) Q 88 [.ref r0, jk, .int (x2 &&& v5), .int x3, .int x4] [.int v7] μ7
          refine run_ok (pc' := 34) [(.istore_n 3, 0, 0, 0), (.iinc 4 1, 0, 0, 0), (.goto (-58), 0, 0, 0)] _ _ _ _ (by decide +kernel) ?_
          show G Γ m_FB_share (d + 1) (0, 0) Q 34 [.ref r0, jk, .int (x2 &&& v5), .int v7, .int (x4 + w 1)] [] μ7
          exact h
        · replace h := h.1 hc
          show G Γ m_FB_share (d + 1) (0, 0) Q 61 [.ref r0, jk, .int x2, .int x3, .int x4] [] μ1
          obtain ⟨ea8, h⟩ := h
          refine run_ok (pc' := 65) [(.aload_n 0, 0, 0, 0), (.getfield 86, 10, 15, 2)] _ _ _ _ (by decide +kernel) ?_
          show _ ∧ (∃ _, _ ∧ (_))
          refine ⟨((o_r0_10).mono hn1), r0_15, ea8, ?_⟩
          show G Γ m_FB_share (d + 1) (0, 0) Q 65 [.ref r0, jk, .int x2, .int x3, .int x4] [.ref r0_15] μ1
          refine g_invV (M' := m_Pa_keepRow) (b1 := 0) (b2 := 0) (As := []) (a := r0_15) (st := []) lk_10_425 (by decide +kernel) rfl (dk_Pa_keepRow d) (Nat.le_of_ble_eq_true rfl) (Or.inl ⟨5, ((o_r0_15_5).mono hn1), rfl⟩) h ?_
          rintro _ μ9 ⟨v9, rfl, h⟩ hn9
          show G Γ m_FB_share (d + 1) (0, 0) Q 68 [.ref r0, jk, .int x2, .int x3, .int x4] [.int v9] μ9
          obtain ⟨ea10, h⟩ := h
          refine run_ok (pc' := 85) [(.goto 12, 0, 0, 0), (.istore_n 2, 0, 0, 0), (.aload_n 0, 0, 0, 0), (.getfield 86, 10, 15, 2)] _ _ _ _ (by decide +kernel) ?_
          show _ ∧ (∃ _, _ ∧ (_))
          refine ⟨(((o_r0_10).mono hn1).mono hn9), r0_15, ea10, ?_⟩
          show G Γ m_FB_share (d + 1) (0, 0) Q 85 [.ref r0, jk, .int v9, .int x3, .int x4] [.ref r0_15] μ9
          refine g_invV (M' := m_Pa_nextRow) (b1 := 0) (b2 := 0) (As := []) (a := r0_15) (st := []) lk_10_422 (by decide +kernel) rfl (dk_Pa_nextRow d) (Nat.le_of_ble_eq_true rfl) (Or.inl ⟨5, (((o_r0_15_5).mono hn1).mono hn9), rfl⟩) h ?_
          rintro _ μ11 ⟨v11, rfl, h⟩ hn11
          show G Γ m_FB_share (d + 1) (0, 0) Q 88 [.ref r0, jk, .int v9, .int x3, .int x4] [.int v11] μ11
          refine run_ok (pc' := 34) [(.istore_n 3, 0, 0, 0), (.iinc 4 1, 0, 0, 0), (.goto (-58), 0, 0, 0)] _ _ _ _ (by decide +kernel) ?_
          show G Γ m_FB_share (d + 1) (0, 0) Q 34 [.ref r0, jk, .int v9, .int v11, .int (x4 + w 1)] [] μ11
          exact h
/-! FrostBox lot(I)I -/
set_option maxRecDepth 100000 in
theorem B_FB_lot_0 {Γ : XG} {d : Nat} {Q : Option Value → XM → Prop} {r0 : Nat} {x1 : Int32} {μ : XM} (o_r0_10 : ob μ r0 10) (h : Call Γ m_FB_hasHouse d [.ref r0] μ (KI (fun v1 μ1 => ((v1 = w 0 → Q (some (.int (w (-1)))) μ1) ∧ (¬ v1 = w 0 → ((x1 < w 0 → Q (some (.int (w (-1)))) μ1) ∧ (¬ x1 < w 0 → ((w 1 < x1 → Q (some (.int (w (-1)))) μ1) ∧ (¬ w 1 < x1 → Call Γ m_FB_fillValues d [.ref r0] μ1 (KV (fun μ2 => G Γ m_FB_lot (d + 1) (0, 0) Q 29 [.ref r0, .int x1, .int (w 0), .int (w 0), .int (w 0)] [] μ2))))))))))) : G Γ m_FB_lot (d + 1) (0, 0) Q 0 [.ref r0, .int x1] [] μ := by
  refine run_ok (pc' := 1) [(.aload_n 0, 0, 0, 0)] _ _ _ _ (by decide +kernel) ?_
  show G Γ m_FB_lot (d + 1) (0, 0) Q 1 [.ref r0, .int x1] [.ref r0] μ
  refine g_invV (M' := m_FB_hasHouse) (b1 := 0) (b2 := 0) (As := []) (a := r0) (st := []) lk_10_162 (by decide +kernel) rfl (dk_FB_hasHouse d) (Nat.le_of_ble_eq_true rfl) (Or.inl ⟨10, o_r0_10, rfl⟩) h ?_
  rintro _ μ1 ⟨v1, rfl, h⟩ hn1
  show G Γ m_FB_lot (d + 1) (0, 0) Q 4 [.ref r0, .int x1] [.int v1] μ1
  refine g_ifz_eq (pc' := 16) (off := 12) (by decide) (by decide +kernel) (fun hc => ?_) (fun hc => ?_)
  · replace h := h.1 hc
    show G Γ m_FB_lot (d + 1) (0, 0) Q 16 [.ref r0, .int x1] [] μ1
    refine run_ok (pc' := 17) [(.iconst (-1), 0, 0, 0)] _ _ _ _ (by decide +kernel) ?_
    show G Γ m_FB_lot (d + 1) (0, 0) Q 17 [.ref r0, .int x1] [.int (w (-1))] μ1
    exact g_reti (by decide +kernel) rfl h
  · replace h := h.2 hc
    show G Γ m_FB_lot (d + 1) (0, 0) Q 7 [.ref r0, .int x1] [] μ1
    refine run_ok (pc' := 8) [(.iload_n 1, 0, 0, 0)] _ _ _ _ (by decide +kernel) ?_
    show G Γ m_FB_lot (d + 1) (0, 0) Q 8 [.ref r0, .int x1] [.int x1] μ1
    refine g_ifz_lt (pc' := 16) (off := 8) (by decide) (by decide +kernel) (fun hc => ?_) (fun hc => ?_)
    · replace h := h.1 hc
      show G Γ m_FB_lot (d + 1) (0, 0) Q 16 [.ref r0, .int x1] [] μ1
      refine run_ok (pc' := 17) [(.iconst (-1), 0, 0, 0)] _ _ _ _ (by decide +kernel) ?_
      show G Γ m_FB_lot (d + 1) (0, 0) Q 17 [.ref r0, .int x1] [.int (w (-1))] μ1
      exact g_reti (by decide +kernel) rfl h
    · replace h := h.2 hc
      show G Γ m_FB_lot (d + 1) (0, 0) Q 11 [.ref r0, .int x1] [] μ1
      refine run_ok (pc' := 13) [(.iload_n 1, 0, 0, 0), (.iconst 1, 0, 0, 0)] _ _ _ _ (by decide +kernel) ?_
      show G Γ m_FB_lot (d + 1) (0, 0) Q 13 [.ref r0, .int x1] [.int (w 1), .int x1] μ1
      refine g_icmp_le (pc' := 18) (off := 5) (by decide) (by decide +kernel) (fun hc => ?_) (fun hc => ?_)
      · replace h := h.2 hc
        show G Γ m_FB_lot (d + 1) (0, 0) Q 18 [.ref r0, .int x1] [] μ1
        refine run_ok (pc' := 19) [(.aload_n 0, 0, 0, 0)] _ _ _ _ (by decide +kernel) ?_
        show G Γ m_FB_lot (d + 1) (0, 0) Q 19 [.ref r0, .int x1] [.ref r0] μ1
        refine g_invV (M' := m_FB_fillValues) (b1 := 0) (b2 := 0) (As := []) (a := r0) (st := []) lk_10_346 (by decide +kernel) rfl (dk_FB_fillValues d) (Nat.le_of_ble_eq_true rfl) (Or.inl ⟨10, ((o_r0_10).mono hn1), rfl⟩) h ?_
        rintro _ μ2 ⟨rfl, h⟩ hn2
        show G Γ m_FB_lot (d + 1) (0, 0) Q 22 [.ref r0, .int x1] [] μ2
        refine run_ok (pc' := 29) [(.iconst 0, 0, 0, 0), (.istore_n 2, 0, 0, 0), (.iconst 0, 0, 0, 0), (.istore_n 3, 0, 0, 0), (.iconst 0, 0, 0, 0), (.istore 4, 0, 0, 0)] _ _ _ _ (by decide +kernel) ?_
        show G Γ m_FB_lot (d + 1) (0, 0) Q 29 [.ref r0, .int x1, .int (w 0), .int (w 0), .int (w 0)] [] μ2
        exact h
      · replace h := h.1 hc
        show G Γ m_FB_lot (d + 1) (0, 0) Q 16 [.ref r0, .int x1] [] μ1
        refine run_ok (pc' := 17) [(.iconst (-1), 0, 0, 0)] _ _ _ _ (by decide +kernel) ?_
        show G Γ m_FB_lot (d + 1) (0, 0) Q 17 [.ref r0, .int x1] [.int (w (-1))] μ1
        exact g_reti (by decide +kernel) rfl h
set_option maxRecDepth 100000 in
theorem B_FB_lot_29 {Γ : XG} {d : Nat} {Q : Option Value → XM → Prop} {r0 r0_9 : Nat} {x1 x2 x3 x4 : Int32} {μ : XM} (o_r0_10 : ob μ r0 10) (e_r0_9 : xR μ r0 9 = some r0_9) (o_r0_9_6 : ob μ r0_9 6) (h : ((x4 < xI μ r0_9 4 → G Γ m_FB_lot (d + 1) (0, 0) Q 47 [.ref r0, .int x1, .int x2, .int x3, .int x4, .int (x4 + (w 1))] [] μ) ∧ (¬ x4 < xI μ r0_9 4 → ((x1 = w 0 → Q (some (.int x2)) μ) ∧ (¬ x1 = w 0 → Q (some (.int x3)) μ))))) : G Γ m_FB_lot (d + 1) (0, 0) Q 29 [.ref r0, .int x1, .int x2, .int x3, .int x4] [] μ := by
  refine run_ok (pc' := 38) [(.iload 4, 0, 0, 0), (.aload_n 0, 0, 0, 0), (.getfield 48, 10, 9, 2), (.getfield 223, 6, 4, 0)] _ _ _ _ (by decide +kernel) ?_
  show _ ∧ (∃ _, _ ∧ (_ ∧ (_)))
  refine ⟨o_r0_10, r0_9, e_r0_9, o_r0_9_6, ?_⟩
  show G Γ m_FB_lot (d + 1) (0, 0) Q 38 [.ref r0, .int x1, .int x2, .int x3, .int x4] [.int (xI μ r0_9 4), .int x4] μ
  refine g_icmp_ge (pc' := 128) (off := 90) (by decide) (by decide +kernel) (fun hc => ?_) (fun hc => ?_)
  · replace h := h.2 hc
    show G Γ m_FB_lot (d + 1) (0, 0) Q 128 [.ref r0, .int x1, .int x2, .int x3, .int x4] [] μ
    refine run_ok (pc' := 129) [(.iload_n 1, 0, 0, 0)] _ _ _ _ (by decide +kernel) ?_
    show G Γ m_FB_lot (d + 1) (0, 0) Q 129 [.ref r0, .int x1, .int x2, .int x3, .int x4] [.int x1] μ
    refine g_ifz_ne (pc' := 136) (off := 7) (by decide) (by decide +kernel) (fun hc => ?_) (fun hc => ?_)
    · replace h := h.2 hc
      show G Γ m_FB_lot (d + 1) (0, 0) Q 136 [.ref r0, .int x1, .int x2, .int x3, .int x4] [] μ
      refine run_ok (pc' := 137) [(.iload_n 3, 0, 0, 0)] _ _ _ _ (by decide +kernel) ?_
      show G Γ m_FB_lot (d + 1) (0, 0) Q 137 [.ref r0, .int x1, .int x2, .int x3, .int x4] [.int x3] μ
      exact g_reti (by decide +kernel) rfl h
    · replace h := h.1 hc
      show G Γ m_FB_lot (d + 1) (0, 0) Q 132 [.ref r0, .int x1, .int x2, .int x3, .int x4] [] μ
      refine run_ok (pc' := 137) [(.iload_n 2, 0, 0, 0), (.goto 4, 0, 0, 0)] _ _ _ _ (by decide +kernel) ?_
      show G Γ m_FB_lot (d + 1) (0, 0) Q 137 [.ref r0, .int x1, .int x2, .int x3, .int x4] [.int x2] μ
      exact g_reti (by decide +kernel) rfl h
  · replace h := h.1 hc
    show G Γ m_FB_lot (d + 1) (0, 0) Q 41 [.ref r0, .int x1, .int x2, .int x3, .int x4] [] μ
    refine run_ok (pc' := 47) [(.iload 4, 0, 0, 0), (.iconst 1, 0, 0, 0), (.iadd, 0, 0, 0), (.istore 5, 0, 0, 0)] _ _ _ _ (by decide +kernel) ?_
    show G Γ m_FB_lot (d + 1) (0, 0) Q 47 [.ref r0, .int x1, .int x2, .int x3, .int x4, .int (x4 + (w 1))] [] μ
    exact h
set_option maxRecDepth 100000 in
theorem B_FB_lot_47 {Γ : XG} {d : Nat} {Q : Option Value → XM → Prop} {r0 r0_9 : Nat} {x1 x2 x3 x4 x5 : Int32} {μ : XM} (o_r0_10 : ob μ r0 10) (e_r0_9 : xR μ r0 9 = some r0_9) (o_r0_9_6 : ob μ r0_9 6) (h : ((x5 < xI μ r0_9 4 → G Γ m_FB_lot (d + 1) (0, 0) Q 65 [.ref r0, .int x1, .int x2, .int x3, .int x4, .int x5, .int (x5 + (w 1))] [] μ) ∧ (¬ x5 < xI μ r0_9 4 → G Γ m_FB_lot (d + 1) (0, 0) Q 29 [.ref r0, .int x1, .int x2, .int x3, .int (x4 + w 1)] [] μ))) : G Γ m_FB_lot (d + 1) (0, 0) Q 47 [.ref r0, .int x1, .int x2, .int x3, .int x4, .int x5] [] μ := by
  refine run_ok (pc' := 56) [(.iload 5, 0, 0, 0), (.aload_n 0, 0, 0, 0), (.getfield 48, 10, 9, 2), (.getfield 223, 6, 4, 0)] _ _ _ _ (by decide +kernel) ?_
  show _ ∧ (∃ _, _ ∧ (_ ∧ (_)))
  refine ⟨o_r0_10, r0_9, e_r0_9, o_r0_9_6, ?_⟩
  show G Γ m_FB_lot (d + 1) (0, 0) Q 56 [.ref r0, .int x1, .int x2, .int x3, .int x4, .int x5] [.int (xI μ r0_9 4), .int x5] μ
  refine g_icmp_ge (pc' := 122) (off := 66) (by decide) (by decide +kernel) (fun hc => ?_) (fun hc => ?_)
  · replace h := h.2 hc
    show G Γ m_FB_lot (d + 1) (0, 0) Q 122 [.ref r0, .int x1, .int x2, .int x3, .int x4, .int x5] [] μ
    refine run_ok (pc' := 29) [(.iinc 4 1, 0, 0, 0), (.goto (-96), 0, 0, 0)] _ _ _ _ (by decide +kernel) ?_
    show G Γ m_FB_lot (d + 1) (0, 0) Q 29 [.ref r0, .int x1, .int x2, .int x3, .int (x4 + w 1), .int x5] [] μ
    exact g_wk (ls' := [.ref r0, .int x1, .int x2, .int x3, .int (x4 + w 1)]) ⟨Or.inr rfl, Or.inr rfl, Or.inr rfl, Or.inr rfl, Or.inr rfl, trivial⟩ h
  · replace h := h.1 hc
    show G Γ m_FB_lot (d + 1) (0, 0) Q 59 [.ref r0, .int x1, .int x2, .int x3, .int x4, .int x5] [] μ
    refine run_ok (pc' := 65) [(.iload 5, 0, 0, 0), (.iconst 1, 0, 0, 0), (.iadd, 0, 0, 0), (.istore 6, 0, 0, 0)] _ _ _ _ (by decide +kernel) ?_
    show G Γ m_FB_lot (d + 1) (0, 0) Q 65 [.ref r0, .int x1, .int x2, .int x3, .int x4, .int x5, .int (x5 + (w 1))] [] μ
    exact h
set_option maxRecDepth 100000 in
theorem B_FB_lot_65 {Γ : XG} {d : Nat} {Q : Option Value → XM → Prop} {r0 r0_9 r0_18 : Nat} {x1 x2 x3 x4 x5 x6 : Int32} {μ : XM} (o_r0_10 : ob μ r0 10) (e_r0_9 : xR μ r0 9 = some r0_9) (o_r0_9_6 : ob μ r0_9 6) (e_r0_18 : xR μ r0 18 = some r0_18) (h : ((x6 < xI μ r0_9 4 → inb μ 0 r0_18 x4 ∧ inb μ 0 r0_18 x5 ∧ inb μ 0 r0_18 x6 ∧ G Γ m_FB_lot (d + 1) (0, 0) Q 65 [.ref r0, .int x1, .int (x2 + (jmax (xI μ r0_18 x4.toNatClampNeg) (jmax (xI μ r0_18 x5.toNatClampNeg) (xI μ r0_18 x6.toNatClampNeg)))), .int (x3 + w 1), .int x4, .int x5, .int (x6 + w 1)] [] μ) ∧ (¬ x6 < xI μ r0_9 4 → G Γ m_FB_lot (d + 1) (0, 0) Q 47 [.ref r0, .int x1, .int x2, .int x3, .int x4, .int (x5 + w 1)] [] μ))) : G Γ m_FB_lot (d + 1) (0, 0) Q 65 [.ref r0, .int x1, .int x2, .int x3, .int x4, .int x5, .int x6] [] μ := by
  refine run_ok (pc' := 74) [(.iload 6, 0, 0, 0), (.aload_n 0, 0, 0, 0), (.getfield 48, 10, 9, 2), (.getfield 223, 6, 4, 0)] _ _ _ _ (by decide +kernel) ?_
  show _ ∧ (∃ _, _ ∧ (_ ∧ (_)))
  refine ⟨o_r0_10, r0_9, e_r0_9, o_r0_9_6, ?_⟩
  show G Γ m_FB_lot (d + 1) (0, 0) Q 74 [.ref r0, .int x1, .int x2, .int x3, .int x4, .int x5, .int x6] [.int (xI μ r0_9 4), .int x6] μ
  refine g_icmp_ge (pc' := 116) (off := 42) (by decide) (by decide +kernel) (fun hc => ?_) (fun hc => ?_)
  · replace h := h.2 hc
    show G Γ m_FB_lot (d + 1) (0, 0) Q 116 [.ref r0, .int x1, .int x2, .int x3, .int x4, .int x5, .int x6] [] μ
    refine run_ok (pc' := 47) [(.iinc 5 1, 0, 0, 0), (.goto (-72), 0, 0, 0)] _ _ _ _ (by decide +kernel) ?_
    show G Γ m_FB_lot (d + 1) (0, 0) Q 47 [.ref r0, .int x1, .int x2, .int x3, .int x4, .int (x5 + w 1), .int x6] [] μ
    exact g_wk (ls' := [.ref r0, .int x1, .int x2, .int x3, .int x4, .int (x5 + w 1)]) ⟨Or.inr rfl, Or.inr rfl, Or.inr rfl, Or.inr rfl, Or.inr rfl, Or.inr rfl, trivial⟩ h
  · replace h := h.1 hc
    show G Γ m_FB_lot (d + 1) (0, 0) Q 77 [.ref r0, .int x1, .int x2, .int x3, .int x4, .int x5, .int x6] [] μ
    obtain ⟨ib1, h⟩ := h
    obtain ⟨ib2, h⟩ := h
    obtain ⟨ib3, h⟩ := h
    refine run_ok (pc' := 99) [(.iload_n 2, 0, 0, 0), (.aload_n 0, 0, 0, 0), (.getfield 97, 10, 18, 2), (.iload 4, 0, 0, 0), (.iaload, 0, 0, 0), (.aload_n 0, 0, 0, 0), (.getfield 97, 10, 18, 2), (.iload 5, 0, 0, 0), (.iaload, 0, 0, 0), (.aload_n 0, 0, 0, 0), (.getfield 97, 10, 18, 2), (.iload 6, 0, 0, 0), (.iaload, 0, 0, 0)] _ _ _ _ (by decide +kernel) ?_
    show _ ∧ (∃ _, _ ∧ (_ ∧ (_ ∧ (∃ _, _ ∧ (_ ∧ (_ ∧ (∃ _, _ ∧ (_ ∧ (_)))))))))
    refine ⟨o_r0_10, r0_18, e_r0_18, ib1, o_r0_10, r0_18, e_r0_18, ib2, o_r0_10, r0_18, e_r0_18, ib3, ?_⟩
    show G Γ m_FB_lot (d + 1) (0, 0) Q 99 [.ref r0, .int x1, .int x2, .int x3, .int x4, .int x5, .int x6] [.int (xI μ r0_18 x6.toNatClampNeg), .int (xI μ r0_18 x5.toNatClampNeg), .int (xI μ r0_18 x4.toNatClampNeg), .int x2] μ
    refine g_maxI (i := 216) lm_10_216 (Nat.le_of_ble_eq_true rfl) (by decide +kernel) ?_
    show G Γ m_FB_lot (d + 1) (0, 0) Q 102 [.ref r0, .int x1, .int x2, .int x3, .int x4, .int x5, .int x6] [.int (jmax (xI μ r0_18 x5.toNatClampNeg) (xI μ r0_18 x6.toNatClampNeg)), .int (xI μ r0_18 x4.toNatClampNeg), .int x2] μ
    refine g_maxI (i := 216) lm_10_216 (Nat.le_of_ble_eq_true rfl) (by decide +kernel) ?_
    show G Γ m_FB_lot (d + 1) (0, 0) Q 105 [.ref r0, .int x1, .int x2, .int x3, .int x4, .int x5, .int x6] [.int (jmax (xI μ r0_18 x4.toNatClampNeg) (jmax (xI μ r0_18 x5.toNatClampNeg) (xI μ r0_18 x6.toNatClampNeg))), .int x2] μ
    refine run_ok (pc' := 65) [(.iadd, 0, 0, 0), (.istore_n 2, 0, 0, 0), (.iinc 3 1, 0, 0, 0), (.iinc 6 1, 0, 0, 0), (.goto (-48), 0, 0, 0)] _ _ _ _ (by decide +kernel) ?_
    show G Γ m_FB_lot (d + 1) (0, 0) Q 65 [.ref r0, .int x1, .int (x2 + (jmax (xI μ r0_18 x4.toNatClampNeg) (jmax (xI μ r0_18 x5.toNatClampNeg) (xI μ r0_18 x6.toNatClampNeg)))), .int (x3 + w 1), .int x4, .int x5, .int (x6 + w 1)] [] μ
    exact h
/-! FrostBox labels(II)I -/
set_option maxRecDepth 100000 in
theorem lk_10_431 : LkV 10 431 m_FB_labellerHas 2 := ⟨lc_FB_labellerHas, lwG_in (List.mem_of_getElem? (i := 1090) rfl) rfl, lwG_in (List.mem_of_getElem? (i := 1092) rfl) rfl, lwG_in (List.mem_of_getElem? (i := 48) rfl) rfl⟩
set_option maxRecDepth 100000 in
theorem B_FB_labels_0 {Γ : XG} {d : Nat} {Q : Option Value → XM → Prop} {r0 : Nat} {x1 x2 : Int32} {μ : XM} (o_r0_10 : ob μ r0 10) (h : Call Γ m_FB_hasHouse d [.ref r0] μ (KI (fun v1 μ1 => ((v1 = w 0 → Q (some (.int (w (-1000000)))) μ1) ∧ (¬ v1 = w 0 → ((x1 < w 0 → Q (some (.int (w (-1000000)))) μ1) ∧ (¬ x1 < w 0 → ((w 1 < x1 → Q (some (.int (w (-1000000)))) μ1) ∧ (¬ w 1 < x1 → ((x2 < w 0 → Q (some (.int (w (-1000000)))) μ1) ∧ (¬ x2 < w 0 → ((w 1 < x2 → Q (some (.int (w (-1000000)))) μ1) ∧ (¬ w 1 < x2 → Call Γ m_FB_labellerHas d [.ref r0, .int x1, .int x2] μ1 (KI (fun v2 μ2 => Q (some (.int v2)) μ2))))))))))))))) : G Γ m_FB_labels (d + 1) (0, 0) Q 0 [.ref r0, .int x1, .int x2] [] μ := by
  refine run_ok (pc' := 1) [(.aload_n 0, 0, 0, 0)] _ _ _ _ (by decide +kernel) ?_
  show G Γ m_FB_labels (d + 1) (0, 0) Q 1 [.ref r0, .int x1, .int x2] [.ref r0] μ
  refine g_invV (M' := m_FB_hasHouse) (b1 := 0) (b2 := 0) (As := []) (a := r0) (st := []) lk_10_162 (by decide +kernel) rfl (dk_FB_hasHouse d) (Nat.le_of_ble_eq_true rfl) (Or.inl ⟨10, o_r0_10, rfl⟩) h ?_
  rintro _ μ1 ⟨v1, rfl, h⟩ hn1
  show G Γ m_FB_labels (d + 1) (0, 0) Q 4 [.ref r0, .int x1, .int x2] [.int v1] μ1
  refine g_ifz_eq (pc' := 25) (off := 21) (by decide) (by decide +kernel) (fun hc => ?_) (fun hc => ?_)
  · replace h := h.1 hc
    show G Γ m_FB_labels (d + 1) (0, 0) Q 25 [.ref r0, .int x1, .int x2] [] μ1
    refine run_ok (pc' := 28) [(.ldc_w 311, 0, 0, (-1000000))] _ _ _ _ (by decide +kernel) ?_
    show G Γ m_FB_labels (d + 1) (0, 0) Q 28 [.ref r0, .int x1, .int x2] [.int (w (-1000000))] μ1
    exact g_reti (by decide +kernel) rfl h
  · replace h := h.2 hc
    show G Γ m_FB_labels (d + 1) (0, 0) Q 7 [.ref r0, .int x1, .int x2] [] μ1
    refine run_ok (pc' := 8) [(.iload_n 1, 0, 0, 0)] _ _ _ _ (by decide +kernel) ?_
    show G Γ m_FB_labels (d + 1) (0, 0) Q 8 [.ref r0, .int x1, .int x2] [.int x1] μ1
    refine g_ifz_lt (pc' := 25) (off := 17) (by decide) (by decide +kernel) (fun hc => ?_) (fun hc => ?_)
    · replace h := h.1 hc
      show G Γ m_FB_labels (d + 1) (0, 0) Q 25 [.ref r0, .int x1, .int x2] [] μ1
      refine run_ok (pc' := 28) [(.ldc_w 311, 0, 0, (-1000000))] _ _ _ _ (by decide +kernel) ?_
      show G Γ m_FB_labels (d + 1) (0, 0) Q 28 [.ref r0, .int x1, .int x2] [.int (w (-1000000))] μ1
      exact g_reti (by decide +kernel) rfl h
    · replace h := h.2 hc
      show G Γ m_FB_labels (d + 1) (0, 0) Q 11 [.ref r0, .int x1, .int x2] [] μ1
      refine run_ok (pc' := 13) [(.iload_n 1, 0, 0, 0), (.iconst 1, 0, 0, 0)] _ _ _ _ (by decide +kernel) ?_
      show G Γ m_FB_labels (d + 1) (0, 0) Q 13 [.ref r0, .int x1, .int x2] [.int (w 1), .int x1] μ1
      refine g_icmp_gt (pc' := 25) (off := 12) (by decide) (by decide +kernel) (fun hc => ?_) (fun hc => ?_)
      · replace h := h.1 hc
        show G Γ m_FB_labels (d + 1) (0, 0) Q 25 [.ref r0, .int x1, .int x2] [] μ1
        refine run_ok (pc' := 28) [(.ldc_w 311, 0, 0, (-1000000))] _ _ _ _ (by decide +kernel) ?_
        show G Γ m_FB_labels (d + 1) (0, 0) Q 28 [.ref r0, .int x1, .int x2] [.int (w (-1000000))] μ1
        exact g_reti (by decide +kernel) rfl h
      · replace h := h.2 hc
        show G Γ m_FB_labels (d + 1) (0, 0) Q 16 [.ref r0, .int x1, .int x2] [] μ1
        refine run_ok (pc' := 17) [(.iload_n 2, 0, 0, 0)] _ _ _ _ (by decide +kernel) ?_
        show G Γ m_FB_labels (d + 1) (0, 0) Q 17 [.ref r0, .int x1, .int x2] [.int x2] μ1
        refine g_ifz_lt (pc' := 25) (off := 8) (by decide) (by decide +kernel) (fun hc => ?_) (fun hc => ?_)
        · replace h := h.1 hc
          show G Γ m_FB_labels (d + 1) (0, 0) Q 25 [.ref r0, .int x1, .int x2] [] μ1
          refine run_ok (pc' := 28) [(.ldc_w 311, 0, 0, (-1000000))] _ _ _ _ (by decide +kernel) ?_
          show G Γ m_FB_labels (d + 1) (0, 0) Q 28 [.ref r0, .int x1, .int x2] [.int (w (-1000000))] μ1
          exact g_reti (by decide +kernel) rfl h
        · replace h := h.2 hc
          show G Γ m_FB_labels (d + 1) (0, 0) Q 20 [.ref r0, .int x1, .int x2] [] μ1
          refine run_ok (pc' := 22) [(.iload_n 2, 0, 0, 0), (.iconst 1, 0, 0, 0)] _ _ _ _ (by decide +kernel) ?_
          show G Γ m_FB_labels (d + 1) (0, 0) Q 22 [.ref r0, .int x1, .int x2] [.int (w 1), .int x2] μ1
          refine g_icmp_le (pc' := 29) (off := 7) (by decide) (by decide +kernel) (fun hc => ?_) (fun hc => ?_)
          · replace h := h.2 hc
            show G Γ m_FB_labels (d + 1) (0, 0) Q 29 [.ref r0, .int x1, .int x2] [] μ1
            refine run_ok (pc' := 32) [(.aload_n 0, 0, 0, 0), (.iload_n 1, 0, 0, 0), (.iload_n 2, 0, 0, 0)] _ _ _ _ (by decide +kernel) ?_
            show G Γ m_FB_labels (d + 1) (0, 0) Q 32 [.ref r0, .int x1, .int x2] [.int x2, .int x1, .ref r0] μ1
            refine g_invV (M' := m_FB_labellerHas) (b1 := 0) (b2 := 0) (As := [.int x1, .int x2]) (a := r0) (st := []) lk_10_431 (by decide +kernel) rfl (dk_FB_labellerHas d) (Nat.le_of_ble_eq_true rfl) (Or.inl ⟨10, ((o_r0_10).mono hn1), rfl⟩) h ?_
            rintro _ μ2 ⟨v2, rfl, h⟩ hn2
            show G Γ m_FB_labels (d + 1) (0, 0) Q 35 [.ref r0, .int x1, .int x2] [.int v2] μ2
            exact g_reti (by decide +kernel) rfl h
          · replace h := h.1 hc
            show G Γ m_FB_labels (d + 1) (0, 0) Q 25 [.ref r0, .int x1, .int x2] [] μ1
            refine run_ok (pc' := 28) [(.ldc_w 311, 0, 0, (-1000000))] _ _ _ _ (by decide +kernel) ?_
            show G Γ m_FB_labels (d + 1) (0, 0) Q 28 [.ref r0, .int x1, .int x2] [.int (w (-1000000))] μ1
            exact g_reti (by decide +kernel) rfl h
/-! FrostBox labellerHas(II)I -/
set_option maxRecDepth 100000 in
theorem lk_10_434 : LkV 10 434 m_FB_nameless 0 := ⟨lc_FB_nameless, lwG_in (List.mem_of_getElem? (i := 1094) rfl) rfl, lwG_in (List.mem_of_getElem? (i := 989) rfl) rfl, lwG_in (List.mem_of_getElem? (i := 990) rfl) rfl⟩
set_option maxRecDepth 100000 in
theorem B_FB_labellerHas_0 {Γ : XG} {d : Nat} {Q : Option Value → XM → Prop} {r0 : Nat} {x1 x2 : Int32} {μ : XM} (o_r0_10 : ob μ r0 10) (h : ((w 0 < x1 + x2 → Call Γ m_FB_nameless d [.ref r0] μ (KI (fun v1 μ1 => Call Γ m_In_bitCount d [.int v1] μ1 (KI (fun v2 μ2 => ((x1 = w 1 → Q (some (.int (((w 2) * v2) - (w 3)))) μ2) ∧ (¬ x1 = w 1 → Q (some (.int ((w 2) * v2))) μ2))))))) ∧ (¬ w 0 < x1 + x2 → ((x1 = w 1 → Q (some (.int ((w 0) - (w 3)))) μ) ∧ (¬ x1 = w 1 → Q (some (.int (w 0))) μ))))) : G Γ m_FB_labellerHas (d + 1) (0, 0) Q 0 [.ref r0, .int x1, .int x2] [] μ := by
  refine run_ok (pc' := 3) [(.iload_n 1, 0, 0, 0), (.iload_n 2, 0, 0, 0), (.iadd, 0, 0, 0)] _ _ _ _ (by decide +kernel) ?_
  show G Γ m_FB_labellerHas (d + 1) (0, 0) Q 3 [.ref r0, .int x1, .int x2] [.int (x1 + x2)] μ
  refine g_ifz_le (pc' := 18) (off := 15) (by decide) (by decide +kernel) (fun hc => ?_) (fun hc => ?_)
  · replace h := h.2 hc
    show G Γ m_FB_labellerHas (d + 1) (0, 0) Q 18 [.ref r0, .int x1, .int x2] [] μ
    refine run_ok (pc' := 22) [(.iconst 0, 0, 0, 0), (.istore_n 3, 0, 0, 0), (.iload_n 1, 0, 0, 0), (.iconst 1, 0, 0, 0)] _ _ _ _ (by decide +kernel) ?_
    show G Γ m_FB_labellerHas (d + 1) (0, 0) Q 22 [.ref r0, .int x1, .int x2, .int (w 0)] [.int (w 1), .int x1] μ
    refine g_icmp_ne (pc' := 31) (off := 9) (by decide) (by decide +kernel) (fun hc => ?_) (fun hc => ?_)
    · replace h := h.2 hc
      show G Γ m_FB_labellerHas (d + 1) (0, 0) Q 31 [.ref r0, .int x1, .int x2, .int (w 0)] [] μ
      refine run_ok (pc' := 32) [(.iload_n 3, 0, 0, 0)] _ _ _ _ (by decide +kernel) ?_
      show G Γ m_FB_labellerHas (d + 1) (0, 0) Q 32 [.ref r0, .int x1, .int x2, .int (w 0)] [.int (w 0)] μ
      exact g_reti (by decide +kernel) rfl h
    · replace h := h.1 hc
      show G Γ m_FB_labellerHas (d + 1) (0, 0) Q 25 [.ref r0, .int x1, .int x2, .int (w 0)] [] μ
      refine run_ok (pc' := 32) [(.iload_n 3, 0, 0, 0), (.iconst 3, 0, 0, 0), (.isub, 0, 0, 0), (.goto 4, 0, 0, 0)] _ _ _ _ (by decide +kernel) ?_
      show G Γ m_FB_labellerHas (d + 1) (0, 0) Q 32 [.ref r0, .int x1, .int x2, .int (w 0)] [.int ((w 0) - (w 3))] μ
      exact g_reti (by decide +kernel) rfl h
  · replace h := h.1 hc
    show G Γ m_FB_labellerHas (d + 1) (0, 0) Q 6 [.ref r0, .int x1, .int x2] [] μ
    refine run_ok (pc' := 8) [(.iconst 2, 0, 0, 0), (.aload_n 0, 0, 0, 0)] _ _ _ _ (by decide +kernel) ?_
    show G Γ m_FB_labellerHas (d + 1) (0, 0) Q 8 [.ref r0, .int x1, .int x2] [.ref r0, .int (w 2)] μ
    refine g_invV (M' := m_FB_nameless) (b1 := 0) (b2 := 0) (As := []) (a := r0) (st := [.int (w 2)]) lk_10_434 (by decide +kernel) rfl (dk_FB_nameless d) (Nat.le_of_ble_eq_true rfl) (Or.inl ⟨10, o_r0_10, rfl⟩) h ?_
    rintro _ μ1 ⟨v1, rfl, h⟩ hn1
    show G Γ m_FB_labellerHas (d + 1) (0, 0) Q 11 [.ref r0, .int x1, .int x2] [.int v1, .int (w 2)] μ1
    refine g_invS (M' := m_In_bitCount) (b1 := 0) (b2 := 0) (As := [.int v1]) (st := [.int (w 2)]) lk_10_374 (by decide +kernel) rfl (dk_In_bitCount d) (Nat.le_of_ble_eq_true rfl) h ?_
    rintro _ μ2 ⟨v2, rfl, h⟩ hn2
    show G Γ m_FB_labellerHas (d + 1) (0, 0) Q 14 [.ref r0, .int x1, .int x2] [.int v2, .int (w 2)] μ2
    refine run_ok (pc' := 22) [(.imul, 0, 0, 0), (.goto 4, 0, 0, 0), (.istore_n 3, 0, 0, 0), (.iload_n 1, 0, 0, 0), (.iconst 1, 0, 0, 0)] _ _ _ _ (by decide +kernel) ?_
    show G Γ m_FB_labellerHas (d + 1) (0, 0) Q 22 [.ref r0, .int x1, .int x2, .int ((w 2) * v2)] [.int (w 1), .int x1] μ2
    refine g_icmp_ne (pc' := 31) (off := 9) (by decide) (by decide +kernel) (fun hc => ?_) (fun hc => ?_)
    · replace h := h.2 hc
      show G Γ m_FB_labellerHas (d + 1) (0, 0) Q 31 [.ref r0, .int x1, .int x2, .int ((w 2) * v2)] [] μ2
      refine run_ok (pc' := 32) [(.iload_n 3, 0, 0, 0)] _ _ _ _ (by decide +kernel) ?_
      show G Γ m_FB_labellerHas (d + 1) (0, 0) Q 32 [.ref r0, .int x1, .int x2, .int ((w 2) * v2)] [.int ((w 2) * v2)] μ2
      exact g_reti (by decide +kernel) rfl h
    · replace h := h.1 hc
      show G Γ m_FB_labellerHas (d + 1) (0, 0) Q 25 [.ref r0, .int x1, .int x2, .int ((w 2) * v2)] [] μ2
      refine run_ok (pc' := 32) [(.iload_n 3, 0, 0, 0), (.iconst 3, 0, 0, 0), (.isub, 0, 0, 0), (.goto 4, 0, 0, 0)] _ _ _ _ (by decide +kernel) ?_
      show G Γ m_FB_labellerHas (d + 1) (0, 0) Q 32 [.ref r0, .int x1, .int x2, .int ((w 2) * v2)] [.int (((w 2) * v2) - (w 3))] μ2
      exact g_reti (by decide +kernel) rfl h
/-! FrostBox rests(I)I -/
set_option maxRecDepth 100000 in
theorem B_FB_rests_0 {Γ : XG} {d : Nat} {Q : Option Value → XM → Prop} {r0 : Nat} {x1 : Int32} {μ : XM} (o_r0_10 : ob μ r0 10) (h : Call Γ m_FB_hasHouse d [.ref r0] μ (KI (fun v1 μ1 => ((v1 = w 0 → Q (some (.int (w (-1)))) μ1) ∧ (¬ v1 = w 0 → ((x1 < w (-1) → Q (some (.int (w (-1)))) μ1) ∧ (¬ x1 < w (-1) → G Γ m_FB_rests (d + 1) (0, 0) Q 18 [.ref r0, .int x1, .int (w 0), .int (w 0)] [] μ1))))))) : G Γ m_FB_rests (d + 1) (0, 0) Q 0 [.ref r0, .int x1] [] μ := by
  refine run_ok (pc' := 1) [(.aload_n 0, 0, 0, 0)] _ _ _ _ (by decide +kernel) ?_
  show G Γ m_FB_rests (d + 1) (0, 0) Q 1 [.ref r0, .int x1] [.ref r0] μ
  refine g_invV (M' := m_FB_hasHouse) (b1 := 0) (b2 := 0) (As := []) (a := r0) (st := []) lk_10_162 (by decide +kernel) rfl (dk_FB_hasHouse d) (Nat.le_of_ble_eq_true rfl) (Or.inl ⟨10, o_r0_10, rfl⟩) h ?_
  rintro _ μ1 ⟨v1, rfl, h⟩ hn1
  show G Γ m_FB_rests (d + 1) (0, 0) Q 4 [.ref r0, .int x1] [.int v1] μ1
  refine g_ifz_eq (pc' := 12) (off := 8) (by decide) (by decide +kernel) (fun hc => ?_) (fun hc => ?_)
  · replace h := h.1 hc
    show G Γ m_FB_rests (d + 1) (0, 0) Q 12 [.ref r0, .int x1] [] μ1
    refine run_ok (pc' := 13) [(.iconst (-1), 0, 0, 0)] _ _ _ _ (by decide +kernel) ?_
    show G Γ m_FB_rests (d + 1) (0, 0) Q 13 [.ref r0, .int x1] [.int (w (-1))] μ1
    exact g_reti (by decide +kernel) rfl h
  · replace h := h.2 hc
    show G Γ m_FB_rests (d + 1) (0, 0) Q 7 [.ref r0, .int x1] [] μ1
    refine run_ok (pc' := 9) [(.iload_n 1, 0, 0, 0), (.iconst (-1), 0, 0, 0)] _ _ _ _ (by decide +kernel) ?_
    show G Γ m_FB_rests (d + 1) (0, 0) Q 9 [.ref r0, .int x1] [.int (w (-1)), .int x1] μ1
    refine g_icmp_ge (pc' := 14) (off := 5) (by decide) (by decide +kernel) (fun hc => ?_) (fun hc => ?_)
    · replace h := h.2 hc
      show G Γ m_FB_rests (d + 1) (0, 0) Q 14 [.ref r0, .int x1] [] μ1
      refine run_ok (pc' := 18) [(.iconst 0, 0, 0, 0), (.istore_n 2, 0, 0, 0), (.iconst 0, 0, 0, 0), (.istore_n 3, 0, 0, 0)] _ _ _ _ (by decide +kernel) ?_
      show G Γ m_FB_rests (d + 1) (0, 0) Q 18 [.ref r0, .int x1, .int (w 0), .int (w 0)] [] μ1
      exact h
    · replace h := h.1 hc
      show G Γ m_FB_rests (d + 1) (0, 0) Q 12 [.ref r0, .int x1] [] μ1
      refine run_ok (pc' := 13) [(.iconst (-1), 0, 0, 0)] _ _ _ _ (by decide +kernel) ?_
      show G Γ m_FB_rests (d + 1) (0, 0) Q 13 [.ref r0, .int x1] [.int (w (-1))] μ1
      exact g_reti (by decide +kernel) rfl h
set_option maxRecDepth 100000 in
theorem B_FB_rests_18 {Γ : XG} {d : Nat} {Q : Option Value → XM → Prop} {r0 : Nat} {x1 x2 x3 : Int32} {μ : XM} (o_r0_10 : ob μ r0 10) (h : ((x3 < w 4 → ¬ (w 2) = 0 ∧ ¬ (w 2) = 0 ∧ Call Γ m_FB_labellerHas d [.ref r0, .int ((w 1) - (x3 / (w 2))), .int (x3 - x3 / (w 2) * (w 2))] μ (KI (fun v3 μ3 => Call Γ m_FB_labellerHas d [.ref r0, .int (x3 / (w 2)), .int (x3 - x3 / (w 2) * (w 2))] μ3 (KI (fun v4 μ4 => ((v4 < v3 → G Γ m_FB_rests (d + 1) (0, 0) Q 18 [.ref r0, .int x1, .int x2, .int (x3 + w 1)] [] μ4) ∧ (¬ v4 < v3 → Call Γ m_FB_labellerHas d [.ref r0, .int ((w 1) - (x3 - x3 / (w 2) * (w 2))), .int (x3 / (w 2))] μ4 (KI (fun v5 μ5 => Call Γ m_FB_labellerHas d [.ref r0, .int (x3 - x3 / (w 2) * (w 2)), .int (x3 / (w 2))] μ5 (KI (fun v6 μ6 => ((v6 < v5 → G Γ m_FB_rests (d + 1) (0, 0) Q 18 [.ref r0, .int x1, .int x2, .int (x3 + w 1)] [] μ6) ∧ (¬ v6 < v5 → ((x2 = x1 → Q (some (.int (((w 10) * (x3 / (w 2))) + (x3 - x3 / (w 2) * (w 2))))) μ6) ∧ (¬ x2 = x1 → G Γ m_FB_rests (d + 1) (0, 0) Q 18 [.ref r0, .int x1, .int (x2 + w 1), .int (x3 + w 1)] [] μ6))))))))))))))) ∧ (¬ x3 < w 4 → ((x1 = w (-1) → Q (some (.int x2)) μ) ∧ (¬ x1 = w (-1) → Q (some (.int (w (-1)))) μ))))) : G Γ m_FB_rests (d + 1) (0, 0) Q 18 [.ref r0, .int x1, .int x2, .int x3] [] μ := by
  refine run_ok (pc' := 20) [(.iload_n 3, 0, 0, 0), (.iconst 4, 0, 0, 0)] _ _ _ _ (by decide +kernel) ?_
  show G Γ m_FB_rests (d + 1) (0, 0) Q 20 [.ref r0, .int x1, .int x2, .int x3] [.int (w 4), .int x3] μ
  refine g_icmp_ge (pc' := 101) (off := 81) (by decide) (by decide +kernel) (fun hc => ?_) (fun hc => ?_)
  · replace h := h.2 hc
    show G Γ m_FB_rests (d + 1) (0, 0) Q 101 [.ref r0, .int x1, .int x2, .int x3] [] μ
    refine run_ok (pc' := 103) [(.iload_n 1, 0, 0, 0), (.iconst (-1), 0, 0, 0)] _ _ _ _ (by decide +kernel) ?_
    show G Γ m_FB_rests (d + 1) (0, 0) Q 103 [.ref r0, .int x1, .int x2, .int x3] [.int (w (-1)), .int x1] μ
    refine g_icmp_ne (pc' := 110) (off := 7) (by decide) (by decide +kernel) (fun hc => ?_) (fun hc => ?_)
    · replace h := h.2 hc
      show G Γ m_FB_rests (d + 1) (0, 0) Q 110 [.ref r0, .int x1, .int x2, .int x3] [] μ
      refine run_ok (pc' := 111) [(.iconst (-1), 0, 0, 0)] _ _ _ _ (by decide +kernel) ?_
      show G Γ m_FB_rests (d + 1) (0, 0) Q 111 [.ref r0, .int x1, .int x2, .int x3] [.int (w (-1))] μ
      exact g_reti (by decide +kernel) rfl h
    · replace h := h.1 hc
      show G Γ m_FB_rests (d + 1) (0, 0) Q 106 [.ref r0, .int x1, .int x2, .int x3] [] μ
      refine run_ok (pc' := 111) [(.iload_n 2, 0, 0, 0), (.goto 4, 0, 0, 0)] _ _ _ _ (by decide +kernel) ?_
      show G Γ m_FB_rests (d + 1) (0, 0) Q 111 [.ref r0, .int x1, .int x2, .int x3] [.int x2] μ
      exact g_reti (by decide +kernel) rfl h
  · replace h := h.1 hc
    show G Γ m_FB_rests (d + 1) (0, 0) Q 23 [.ref r0, .int x1, .int x2, .int x3] [] μ
    obtain ⟨nz1, h⟩ := h
    obtain ⟨nz2, h⟩ := h
    refine run_ok (pc' := 40) [(.iload_n 3, 0, 0, 0), (.iconst 2, 0, 0, 0), (.idiv, 0, 0, 0), (.istore 4, 0, 0, 0), (.iload_n 3, 0, 0, 0), (.iconst 2, 0, 0, 0), (.irem, 0, 0, 0), (.istore 5, 0, 0, 0), (.aload_n 0, 0, 0, 0), (.iconst 1, 0, 0, 0), (.iload 4, 0, 0, 0), (.isub, 0, 0, 0), (.iload 5, 0, 0, 0)] _ _ _ _ (by decide +kernel) ?_
    show _ ∧ (_ ∧ (_))
    refine ⟨nz1, nz2, ?_⟩
    show G Γ m_FB_rests (d + 1) (0, 0) Q 40 [.ref r0, .int x1, .int x2, .int x3, .int (x3 / (w 2)), .int (x3 - x3 / (w 2) * (w 2))] [.int (x3 - x3 / (w 2) * (w 2)), .int ((w 1) - (x3 / (w 2))), .ref r0] μ
    refine g_invV (M' := m_FB_labellerHas) (b1 := 0) (b2 := 0) (As := [.int ((w 1) - (x3 / (w 2))), .int (x3 - x3 / (w 2) * (w 2))]) (a := r0) (st := []) lk_10_431 (by decide +kernel) rfl (dk_FB_labellerHas d) (Nat.le_of_ble_eq_true rfl) (Or.inl ⟨10, o_r0_10, rfl⟩) h ?_
    rintro _ μ3 ⟨v3, rfl, h⟩ hn3
    show G Γ m_FB_rests (d + 1) (0, 0) Q 43 [.ref r0, .int x1, .int x2, .int x3, .int (x3 / (w 2)), .int (x3 - x3 / (w 2) * (w 2))] [.int v3] μ3
    refine run_ok (pc' := 48) [(.aload_n 0, 0, 0, 0), (.iload 4, 0, 0, 0), (.iload 5, 0, 0, 0)] _ _ _ _ (by decide +kernel) ?_
    show G Γ m_FB_rests (d + 1) (0, 0) Q 48 [.ref r0, .int x1, .int x2, .int x3, .int (x3 / (w 2)), .int (x3 - x3 / (w 2) * (w 2))] [.int (x3 - x3 / (w 2) * (w 2)), .int (x3 / (w 2)), .ref r0, .int v3] μ3
    refine g_invV (M' := m_FB_labellerHas) (b1 := 0) (b2 := 0) (As := [.int (x3 / (w 2)), .int (x3 - x3 / (w 2) * (w 2))]) (a := r0) (st := [.int v3]) lk_10_431 (by decide +kernel) rfl (dk_FB_labellerHas d) (Nat.le_of_ble_eq_true rfl) (Or.inl ⟨10, ((o_r0_10).mono hn3), rfl⟩) h ?_
    rintro _ μ4 ⟨v4, rfl, h⟩ hn4
    show G Γ m_FB_rests (d + 1) (0, 0) Q 51 [.ref r0, .int x1, .int x2, .int x3, .int (x3 / (w 2)), .int (x3 - x3 / (w 2) * (w 2))] [.int v4, .int v3] μ4
    refine g_icmp_gt (pc' := 95) (off := 44) (by decide) (by decide +kernel) (fun hc => ?_) (fun hc => ?_)
    · replace h := h.1 hc
      show G Γ m_FB_rests (d + 1) (0, 0) Q 95 [.ref r0, .int x1, .int x2, .int x3, .int (x3 / (w 2)), .int (x3 - x3 / (w 2) * (w 2))] [] μ4
      refine run_ok (pc' := 18) [(.iinc 3 1, 0, 0, 0), (.goto (-80), 0, 0, 0)] _ _ _ _ (by decide +kernel) ?_
      show G Γ m_FB_rests (d + 1) (0, 0) Q 18 [.ref r0, .int x1, .int x2, .int (x3 + w 1), .int (x3 / (w 2)), .int (x3 - x3 / (w 2) * (w 2))] [] μ4
      exact g_wk (ls' := [.ref r0, .int x1, .int x2, .int (x3 + w 1)]) ⟨Or.inr rfl, Or.inr rfl, Or.inr rfl, Or.inr rfl, trivial⟩ h
    · replace h := h.2 hc
      show G Γ m_FB_rests (d + 1) (0, 0) Q 54 [.ref r0, .int x1, .int x2, .int x3, .int (x3 / (w 2)), .int (x3 - x3 / (w 2) * (w 2))] [] μ4
      refine run_ok (pc' := 61) [(.aload_n 0, 0, 0, 0), (.iconst 1, 0, 0, 0), (.iload 5, 0, 0, 0), (.isub, 0, 0, 0), (.iload 4, 0, 0, 0)] _ _ _ _ (by decide +kernel) ?_
      show G Γ m_FB_rests (d + 1) (0, 0) Q 61 [.ref r0, .int x1, .int x2, .int x3, .int (x3 / (w 2)), .int (x3 - x3 / (w 2) * (w 2))] [.int (x3 / (w 2)), .int ((w 1) - (x3 - x3 / (w 2) * (w 2))), .ref r0] μ4
      refine g_invV (M' := m_FB_labellerHas) (b1 := 0) (b2 := 0) (As := [.int ((w 1) - (x3 - x3 / (w 2) * (w 2))), .int (x3 / (w 2))]) (a := r0) (st := []) lk_10_431 (by decide +kernel) rfl (dk_FB_labellerHas d) (Nat.le_of_ble_eq_true rfl) (Or.inl ⟨10, (((o_r0_10).mono hn3).mono hn4), rfl⟩) h ?_
      rintro _ μ5 ⟨v5, rfl, h⟩ hn5
      show G Γ m_FB_rests (d + 1) (0, 0) Q 64 [.ref r0, .int x1, .int x2, .int x3, .int (x3 / (w 2)), .int (x3 - x3 / (w 2) * (w 2))] [.int v5] μ5
      refine run_ok (pc' := 69) [(.aload_n 0, 0, 0, 0), (.iload 5, 0, 0, 0), (.iload 4, 0, 0, 0)] _ _ _ _ (by decide +kernel) ?_
      show G Γ m_FB_rests (d + 1) (0, 0) Q 69 [.ref r0, .int x1, .int x2, .int x3, .int (x3 / (w 2)), .int (x3 - x3 / (w 2) * (w 2))] [.int (x3 / (w 2)), .int (x3 - x3 / (w 2) * (w 2)), .ref r0, .int v5] μ5
      refine g_invV (M' := m_FB_labellerHas) (b1 := 0) (b2 := 0) (As := [.int (x3 - x3 / (w 2) * (w 2)), .int (x3 / (w 2))]) (a := r0) (st := [.int v5]) lk_10_431 (by decide +kernel) rfl (dk_FB_labellerHas d) (Nat.le_of_ble_eq_true rfl) (Or.inl ⟨10, ((((o_r0_10).mono hn3).mono hn4).mono hn5), rfl⟩) h ?_
      rintro _ μ6 ⟨v6, rfl, h⟩ hn6
      show G Γ m_FB_rests (d + 1) (0, 0) Q 72 [.ref r0, .int x1, .int x2, .int x3, .int (x3 / (w 2)), .int (x3 - x3 / (w 2) * (w 2))] [.int v6, .int v5] μ6
      refine g_icmp_le (pc' := 78) (off := 6) (by decide) (by decide +kernel) (fun hc => ?_) (fun hc => ?_)
      · replace h := h.2 hc
        show G Γ m_FB_rests (d + 1) (0, 0) Q 78 [.ref r0, .int x1, .int x2, .int x3, .int (x3 / (w 2)), .int (x3 - x3 / (w 2) * (w 2))] [] μ6
        refine run_ok (pc' := 80) [(.iload_n 2, 0, 0, 0), (.iload_n 1, 0, 0, 0)] _ _ _ _ (by decide +kernel) ?_
        show G Γ m_FB_rests (d + 1) (0, 0) Q 80 [.ref r0, .int x1, .int x2, .int x3, .int (x3 / (w 2)), .int (x3 - x3 / (w 2) * (w 2))] [.int x1, .int x2] μ6
        refine g_icmp_ne (pc' := 92) (off := 12) (by decide) (by decide +kernel) (fun hc => ?_) (fun hc => ?_)
        · replace h := h.2 hc
          show G Γ m_FB_rests (d + 1) (0, 0) Q 92 [.ref r0, .int x1, .int x2, .int x3, .int (x3 / (w 2)), .int (x3 - x3 / (w 2) * (w 2))] [] μ6
          refine run_ok (pc' := 18) [(.iinc 2 1, 0, 0, 0), (.iinc 3 1, 0, 0, 0), (.goto (-80), 0, 0, 0)] _ _ _ _ (by decide +kernel) ?_
          show G Γ m_FB_rests (d + 1) (0, 0) Q 18 [.ref r0, .int x1, .int (x2 + w 1), .int (x3 + w 1), .int (x3 / (w 2)), .int (x3 - x3 / (w 2) * (w 2))] [] μ6
          exact g_wk (ls' := [.ref r0, .int x1, .int (x2 + w 1), .int (x3 + w 1)]) ⟨Or.inr rfl, Or.inr rfl, Or.inr rfl, Or.inr rfl, trivial⟩ h
        · replace h := h.1 hc
          show G Γ m_FB_rests (d + 1) (0, 0) Q 83 [.ref r0, .int x1, .int x2, .int x3, .int (x3 / (w 2)), .int (x3 - x3 / (w 2) * (w 2))] [] μ6
          refine run_ok (pc' := 91) [(.bipush 10, 0, 0, 0), (.iload 4, 0, 0, 0), (.imul, 0, 0, 0), (.iload 5, 0, 0, 0), (.iadd, 0, 0, 0)] _ _ _ _ (by decide +kernel) ?_
          show G Γ m_FB_rests (d + 1) (0, 0) Q 91 [.ref r0, .int x1, .int x2, .int x3, .int (x3 / (w 2)), .int (x3 - x3 / (w 2) * (w 2))] [.int (((w 10) * (x3 / (w 2))) + (x3 - x3 / (w 2) * (w 2)))] μ6
          exact g_reti (by decide +kernel) rfl h
      · replace h := h.1 hc
        show G Γ m_FB_rests (d + 1) (0, 0) Q 75 [.ref r0, .int x1, .int x2, .int x3, .int (x3 / (w 2)), .int (x3 - x3 / (w 2) * (w 2))] [] μ6
        refine run_ok (pc' := 18) [(.goto 20, 0, 0, 0), (.iinc 3 1, 0, 0, 0), (.goto (-80), 0, 0, 0)] _ _ _ _ (by decide +kernel) ?_
        show G Γ m_FB_rests (d + 1) (0, 0) Q 18 [.ref r0, .int x1, .int x2, .int (x3 + w 1), .int (x3 / (w 2)), .int (x3 - x3 / (w 2) * (w 2))] [] μ6
        exact g_wk (ls' := [.ref r0, .int x1, .int x2, .int (x3 + w 1)]) ⟨Or.inr rfl, Or.inr rfl, Or.inr rfl, Or.inr rfl, trivial⟩ h
/-! FrostBox most(I)I -/
set_option maxRecDepth 100000 in
theorem B_FB_most_0 {Γ : XG} {d : Nat} {Q : Option Value → XM → Prop} {r0 : Nat} {x1 : Int32} {μ : XM} (o_r0_10 : ob μ r0 10) (h : Call Γ m_FB_hasHouse d [.ref r0] μ (KI (fun v1 μ1 => ((v1 = w 0 → Q (some (.int (w (-1)))) μ1) ∧ (¬ v1 = w 0 → ((x1 < w 0 → Q (some (.int (w (-1)))) μ1) ∧ (¬ x1 < w 0 → ((w 1 < x1 → Q (some (.int (w (-1)))) μ1) ∧ (¬ w 1 < x1 → G Γ m_FB_most (d + 1) (0, 0) Q 25 [.ref r0, .int x1, .int (w (-1)), .int (w (-1)), .int (w 0)] [] μ1))))))))) : G Γ m_FB_most (d + 1) (0, 0) Q 0 [.ref r0, .int x1] [] μ := by
  refine run_ok (pc' := 1) [(.aload_n 0, 0, 0, 0)] _ _ _ _ (by decide +kernel) ?_
  show G Γ m_FB_most (d + 1) (0, 0) Q 1 [.ref r0, .int x1] [.ref r0] μ
  refine g_invV (M' := m_FB_hasHouse) (b1 := 0) (b2 := 0) (As := []) (a := r0) (st := []) lk_10_162 (by decide +kernel) rfl (dk_FB_hasHouse d) (Nat.le_of_ble_eq_true rfl) (Or.inl ⟨10, o_r0_10, rfl⟩) h ?_
  rintro _ μ1 ⟨v1, rfl, h⟩ hn1
  show G Γ m_FB_most (d + 1) (0, 0) Q 4 [.ref r0, .int x1] [.int v1] μ1
  refine g_ifz_eq (pc' := 16) (off := 12) (by decide) (by decide +kernel) (fun hc => ?_) (fun hc => ?_)
  · replace h := h.1 hc
    show G Γ m_FB_most (d + 1) (0, 0) Q 16 [.ref r0, .int x1] [] μ1
    refine run_ok (pc' := 17) [(.iconst (-1), 0, 0, 0)] _ _ _ _ (by decide +kernel) ?_
    show G Γ m_FB_most (d + 1) (0, 0) Q 17 [.ref r0, .int x1] [.int (w (-1))] μ1
    exact g_reti (by decide +kernel) rfl h
  · replace h := h.2 hc
    show G Γ m_FB_most (d + 1) (0, 0) Q 7 [.ref r0, .int x1] [] μ1
    refine run_ok (pc' := 8) [(.iload_n 1, 0, 0, 0)] _ _ _ _ (by decide +kernel) ?_
    show G Γ m_FB_most (d + 1) (0, 0) Q 8 [.ref r0, .int x1] [.int x1] μ1
    refine g_ifz_lt (pc' := 16) (off := 8) (by decide) (by decide +kernel) (fun hc => ?_) (fun hc => ?_)
    · replace h := h.1 hc
      show G Γ m_FB_most (d + 1) (0, 0) Q 16 [.ref r0, .int x1] [] μ1
      refine run_ok (pc' := 17) [(.iconst (-1), 0, 0, 0)] _ _ _ _ (by decide +kernel) ?_
      show G Γ m_FB_most (d + 1) (0, 0) Q 17 [.ref r0, .int x1] [.int (w (-1))] μ1
      exact g_reti (by decide +kernel) rfl h
    · replace h := h.2 hc
      show G Γ m_FB_most (d + 1) (0, 0) Q 11 [.ref r0, .int x1] [] μ1
      refine run_ok (pc' := 13) [(.iload_n 1, 0, 0, 0), (.iconst 1, 0, 0, 0)] _ _ _ _ (by decide +kernel) ?_
      show G Γ m_FB_most (d + 1) (0, 0) Q 13 [.ref r0, .int x1] [.int (w 1), .int x1] μ1
      refine g_icmp_le (pc' := 18) (off := 5) (by decide) (by decide +kernel) (fun hc => ?_) (fun hc => ?_)
      · replace h := h.2 hc
        show G Γ m_FB_most (d + 1) (0, 0) Q 18 [.ref r0, .int x1] [] μ1
        refine run_ok (pc' := 25) [(.iconst (-1), 0, 0, 0), (.istore_n 2, 0, 0, 0), (.iconst (-1), 0, 0, 0), (.istore_n 3, 0, 0, 0), (.iconst 0, 0, 0, 0), (.istore 4, 0, 0, 0)] _ _ _ _ (by decide +kernel) ?_
        show G Γ m_FB_most (d + 1) (0, 0) Q 25 [.ref r0, .int x1, .int (w (-1)), .int (w (-1)), .int (w 0)] [] μ1
        exact h
      · replace h := h.1 hc
        show G Γ m_FB_most (d + 1) (0, 0) Q 16 [.ref r0, .int x1] [] μ1
        refine run_ok (pc' := 17) [(.iconst (-1), 0, 0, 0)] _ _ _ _ (by decide +kernel) ?_
        show G Γ m_FB_most (d + 1) (0, 0) Q 17 [.ref r0, .int x1] [.int (w (-1))] μ1
        exact g_reti (by decide +kernel) rfl h
set_option maxRecDepth 100000 in
theorem B_FB_most_25 {Γ : XG} {d : Nat} {Q : Option Value → XM → Prop} {r0 r0_9 : Nat} {x1 x2 x3 x4 : Int32} {μ : XM} (o_r0_10 : ob μ r0 10) (e_r0_9 : xR μ r0 9 = some r0_9) (o_r0_9_6 : ob μ r0_9 6) (h : ((x4 < xI μ r0_9 4 → Call Γ m_Pi_indexOf d [.ref r0_9, .int x4] μ (KI (fun v1 μ1 => ((x1 = w 0 → xR μ1 r0 9 = some r0_9 ∧ ∃ a5, xR μ1 r0_9 2 = some a5 ∧ inb μ1 0 a5 v1 ∧ ((x2 < xI μ1 a5 v1.toNatClampNeg → G Γ m_FB_most (d + 1) (0, 0) Q 25 [.ref r0, .int x1, .int (xI μ1 a5 v1.toNatClampNeg), .int x4, .int (x4 + w 1)] [] μ1) ∧ (¬ x2 < xI μ1 a5 v1.toNatClampNeg → G Γ m_FB_most (d + 1) (0, 0) Q 25 [.ref r0, .int x1, .int x2, .int x3, .int (x4 + w 1)] [] μ1))) ∧ (¬ x1 = w 0 → xR μ1 r0 9 = some r0_9 ∧ Call Γ m_FB_valueOf d [.ref r0, .ref r0_9, .int v1] μ1 (KI (fun v3 μ3 => ((x2 < v3 → G Γ m_FB_most (d + 1) (0, 0) Q 25 [.ref r0, .int x1, .int v3, .int x4, .int (x4 + w 1)] [] μ3) ∧ (¬ x2 < v3 → G Γ m_FB_most (d + 1) (0, 0) Q 25 [.ref r0, .int x1, .int x2, .int x3, .int (x4 + w 1)] [] μ3))))))))) ∧ (¬ x4 < xI μ r0_9 4 → Q (some (.int x3)) μ))) : G Γ m_FB_most (d + 1) (0, 0) Q 25 [.ref r0, .int x1, .int x2, .int x3, .int x4] [] μ := by
  refine run_ok (pc' := 34) [(.iload 4, 0, 0, 0), (.aload_n 0, 0, 0, 0), (.getfield 48, 10, 9, 2), (.getfield 223, 6, 4, 0)] _ _ _ _ (by decide +kernel) ?_
  show _ ∧ (∃ _, _ ∧ (_ ∧ (_)))
  refine ⟨o_r0_10, r0_9, e_r0_9, o_r0_9_6, ?_⟩
  show G Γ m_FB_most (d + 1) (0, 0) Q 34 [.ref r0, .int x1, .int x2, .int x3, .int x4] [.int (xI μ r0_9 4), .int x4] μ
  refine g_icmp_ge (pc' := 95) (off := 61) (by decide) (by decide +kernel) (fun hc => ?_) (fun hc => ?_)
  · replace h := h.2 hc
    show G Γ m_FB_most (d + 1) (0, 0) Q 95 [.ref r0, .int x1, .int x2, .int x3, .int x4] [] μ
    refine run_ok (pc' := 96) [(.iload_n 3, 0, 0, 0)] _ _ _ _ (by decide +kernel) ?_
    show G Γ m_FB_most (d + 1) (0, 0) Q 96 [.ref r0, .int x1, .int x2, .int x3, .int x4] [.int x3] μ
    exact g_reti (by decide +kernel) rfl h
  · replace h := h.1 hc
    show G Γ m_FB_most (d + 1) (0, 0) Q 37 [.ref r0, .int x1, .int x2, .int x3, .int x4] [] μ
    refine run_ok (pc' := 43) [(.aload_n 0, 0, 0, 0), (.getfield 48, 10, 9, 2), (.iload 4, 0, 0, 0)] _ _ _ _ (by decide +kernel) ?_
    show _ ∧ (∃ _, _ ∧ (_))
    refine ⟨o_r0_10, r0_9, e_r0_9, ?_⟩
    show G Γ m_FB_most (d + 1) (0, 0) Q 43 [.ref r0, .int x1, .int x2, .int x3, .int x4] [.int x4, .ref r0_9] μ
    refine g_invV (M' := m_Pi_indexOf) (b1 := 0) (b2 := 0) (As := [.int x4]) (a := r0_9) (st := []) lk_10_182 (by decide +kernel) rfl (dk_Pi_indexOf d) (Nat.le_of_ble_eq_true rfl) (Or.inl ⟨6, o_r0_9_6, rfl⟩) h ?_
    rintro _ μ1 ⟨v1, rfl, h⟩ hn1
    show G Γ m_FB_most (d + 1) (0, 0) Q 46 [.ref r0, .int x1, .int x2, .int x3, .int x4] [.int v1] μ1
    refine run_ok (pc' := 49) [(.istore 5, 0, 0, 0), (.iload_n 1, 0, 0, 0)] _ _ _ _ (by decide +kernel) ?_
    show G Γ m_FB_most (d + 1) (0, 0) Q 49 [.ref r0, .int x1, .int x2, .int x3, .int x4, .int v1] [.int x1] μ1
    refine g_ifz_ne (pc' := 65) (off := 16) (by decide) (by decide +kernel) (fun hc => ?_) (fun hc => ?_)
    · replace h := h.2 hc
      show G Γ m_FB_most (d + 1) (0, 0) Q 65 [.ref r0, .int x1, .int x2, .int x3, .int x4, .int v1] [] μ1
      obtain ⟨ea2, h⟩ := h
      refine run_ok (pc' := 72) [(.aload_n 0, 0, 0, 0), (.aload_n 0, 0, 0, 0), (.getfield 48, 10, 9, 2), (.iload 5, 0, 0, 0)] _ _ _ _ (by decide +kernel) ?_
      show _ ∧ (∃ _, _ ∧ (_))
      refine ⟨((o_r0_10).mono hn1), r0_9, ea2, ?_⟩
      show G Γ m_FB_most (d + 1) (0, 0) Q 72 [.ref r0, .int x1, .int x2, .int x3, .int x4, .int v1] [.int v1, .ref r0_9, .ref r0] μ1
      refine g_invV (M' := m_FB_valueOf) (b1 := 0) (b2 := 0) (As := [.ref r0_9, .int v1]) (a := r0) (st := []) lk_10_196 (by decide +kernel) rfl (dk_FB_valueOf d) (Nat.le_of_ble_eq_true rfl) (Or.inl ⟨10, ((o_r0_10).mono hn1), rfl⟩) h ?_
      rintro _ μ3 ⟨v3, rfl, h⟩ hn3
      show G Γ m_FB_most (d + 1) (0, 0) Q 75 [.ref r0, .int x1, .int x2, .int x3, .int x4, .int v1] [.int v3] μ3
      refine run_ok (pc' := 80) [(.istore 6, 0, 0, 0), (.iload 6, 0, 0, 0), (.iload_n 2, 0, 0, 0)] _ _ _ _ (by decide +kernel) ?_
      show G Γ m_FB_most (d + 1) (0, 0) Q 80 [.ref r0, .int x1, .int x2, .int x3, .int x4, .int v1, .int v3] [.int x2, .int v3] μ3
      refine g_icmp_le (pc' := 89) (off := 9) (by decide) (by decide +kernel) (fun hc => ?_) (fun hc => ?_)
      · replace h := h.2 hc
        show G Γ m_FB_most (d + 1) (0, 0) Q 89 [.ref r0, .int x1, .int x2, .int x3, .int x4, .int v1, .int v3] [] μ3
        refine run_ok (pc' := 25) [(.iinc 4 1, 0, 0, 0), (.goto (-67), 0, 0, 0)] _ _ _ _ (by decide +kernel) ?_
        show G Γ m_FB_most (d + 1) (0, 0) Q 25 [.ref r0, .int x1, .int x2, .int x3, .int (x4 + w 1), .int v1, .int v3] [] μ3
        exact g_wk (ls' := [.ref r0, .int x1, .int x2, .int x3, .int (x4 + w 1)]) ⟨Or.inr rfl, Or.inr rfl, Or.inr rfl, Or.inr rfl, Or.inr rfl, trivial⟩ h
      · replace h := h.1 hc
        show G Γ m_FB_most (d + 1) (0, 0) Q 83 [.ref r0, .int x1, .int x2, .int x3, .int x4, .int v1, .int v3] [] μ3
        refine run_ok (pc' := 25) [(.iload 6, 0, 0, 0), (.istore_n 2, 0, 0, 0), (.iload 4, 0, 0, 0), (.istore_n 3, 0, 0, 0), (.iinc 4 1, 0, 0, 0), (.goto (-67), 0, 0, 0)] _ _ _ _ (by decide +kernel) ?_
        show G Γ m_FB_most (d + 1) (0, 0) Q 25 [.ref r0, .int x1, .int v3, .int x4, .int (x4 + w 1), .int v1, .int v3] [] μ3
        exact g_wk (ls' := [.ref r0, .int x1, .int v3, .int x4, .int (x4 + w 1)]) ⟨Or.inr rfl, Or.inr rfl, Or.inr rfl, Or.inr rfl, Or.inr rfl, trivial⟩ h
    · replace h := h.1 hc
      show G Γ m_FB_most (d + 1) (0, 0) Q 52 [.ref r0, .int x1, .int x2, .int x3, .int x4, .int v1] [] μ1
      obtain ⟨ea4, h⟩ := h
      obtain ⟨a5, ea5, h⟩ := h
      obtain ⟨ib6, h⟩ := h
      refine run_ok (pc' := 80) [(.aload_n 0, 0, 0, 0), (.getfield 48, 10, 9, 2), (.getfield 190, 6, 2, 2), (.iload 5, 0, 0, 0), (.iaload, 0, 0, 0), (.goto 13, 0, 0, 0), (.istore 6, 0, 0, 0), (.iload 6, 0, 0, 0), (.iload_n 2, 0, 0, 0)] _ _ _ _ (by decide +kernel) ?_
      show _ ∧ (∃ _, _ ∧ (_ ∧ (∃ _, _ ∧ (_ ∧ (_)))))
      refine ⟨((o_r0_10).mono hn1), r0_9, ea4, ((o_r0_9_6).mono hn1), a5, ea5, ib6, ?_⟩
      show G Γ m_FB_most (d + 1) (0, 0) Q 80 [.ref r0, .int x1, .int x2, .int x3, .int x4, .int v1, .int (xI μ1 a5 v1.toNatClampNeg)] [.int x2, .int (xI μ1 a5 v1.toNatClampNeg)] μ1
      refine g_icmp_le (pc' := 89) (off := 9) (by decide) (by decide +kernel) (fun hc => ?_) (fun hc => ?_)
      · replace h := h.2 hc
        show G Γ m_FB_most (d + 1) (0, 0) Q 89 [.ref r0, .int x1, .int x2, .int x3, .int x4, .int v1, .int (xI μ1 a5 v1.toNatClampNeg)] [] μ1
        refine run_ok (pc' := 25) [(.iinc 4 1, 0, 0, 0), (.goto (-67), 0, 0, 0)] _ _ _ _ (by decide +kernel) ?_
        show G Γ m_FB_most (d + 1) (0, 0) Q 25 [.ref r0, .int x1, .int x2, .int x3, .int (x4 + w 1), .int v1, .int (xI μ1 a5 v1.toNatClampNeg)] [] μ1
        exact g_wk (ls' := [.ref r0, .int x1, .int x2, .int x3, .int (x4 + w 1)]) ⟨Or.inr rfl, Or.inr rfl, Or.inr rfl, Or.inr rfl, Or.inr rfl, trivial⟩ h
      · replace h := h.1 hc
        show G Γ m_FB_most (d + 1) (0, 0) Q 83 [.ref r0, .int x1, .int x2, .int x3, .int x4, .int v1, .int (xI μ1 a5 v1.toNatClampNeg)] [] μ1
        refine run_ok (pc' := 25) [(.iload 6, 0, 0, 0), (.istore_n 2, 0, 0, 0), (.iload 4, 0, 0, 0), (.istore_n 3, 0, 0, 0), (.iinc 4 1, 0, 0, 0), (.goto (-67), 0, 0, 0)] _ _ _ _ (by decide +kernel) ?_
        show G Γ m_FB_most (d + 1) (0, 0) Q 25 [.ref r0, .int x1, .int (xI μ1 a5 v1.toNatClampNeg), .int x4, .int (x4 + w 1), .int v1, .int (xI μ1 a5 v1.toNatClampNeg)] [] μ1
        exact g_wk (ls' := [.ref r0, .int x1, .int (xI μ1 a5 v1.toNatClampNeg), .int x4, .int (x4 + w 1)]) ⟨Or.inr rfl, Or.inr rfl, Or.inr rfl, Or.inr rfl, Or.inr rfl, trivial⟩ h
/-! FrostBox spoilt()I -/
set_option maxRecDepth 100000 in
theorem B_FB_spoilt_0 {Γ : XG} {d : Nat} {Q : Option Value → XM → Prop} {r0 : Nat} {μ : XM} (o_r0_10 : ob μ r0 10) (h : Call Γ m_FB_hasHouse d [.ref r0] μ (KI (fun v1 μ1 => ((v1 = w 0 → Q (some (.int (w (-1)))) μ1) ∧ (¬ v1 = w 0 → G Γ m_FB_spoilt (d + 1) (0, 0) Q 13 [.ref r0, .int (w 0), .int (w 0)] [] μ1))))) : G Γ m_FB_spoilt (d + 1) (0, 0) Q 0 [.ref r0] [] μ := by
  refine run_ok (pc' := 1) [(.aload_n 0, 0, 0, 0)] _ _ _ _ (by decide +kernel) ?_
  show G Γ m_FB_spoilt (d + 1) (0, 0) Q 1 [.ref r0] [.ref r0] μ
  refine g_invV (M' := m_FB_hasHouse) (b1 := 0) (b2 := 0) (As := []) (a := r0) (st := []) lk_10_162 (by decide +kernel) rfl (dk_FB_hasHouse d) (Nat.le_of_ble_eq_true rfl) (Or.inl ⟨10, o_r0_10, rfl⟩) h ?_
  rintro _ μ1 ⟨v1, rfl, h⟩ hn1
  show G Γ m_FB_spoilt (d + 1) (0, 0) Q 4 [.ref r0] [.int v1] μ1
  refine g_ifz_ne (pc' := 9) (off := 5) (by decide) (by decide +kernel) (fun hc => ?_) (fun hc => ?_)
  · replace h := h.2 hc
    show G Γ m_FB_spoilt (d + 1) (0, 0) Q 9 [.ref r0] [] μ1
    refine run_ok (pc' := 13) [(.iconst 0, 0, 0, 0), (.istore_n 1, 0, 0, 0), (.iconst 0, 0, 0, 0), (.istore_n 2, 0, 0, 0)] _ _ _ _ (by decide +kernel) ?_
    show G Γ m_FB_spoilt (d + 1) (0, 0) Q 13 [.ref r0, .int (w 0), .int (w 0)] [] μ1
    exact h
  · replace h := h.1 hc
    show G Γ m_FB_spoilt (d + 1) (0, 0) Q 7 [.ref r0] [] μ1
    refine run_ok (pc' := 8) [(.iconst (-1), 0, 0, 0)] _ _ _ _ (by decide +kernel) ?_
    show G Γ m_FB_spoilt (d + 1) (0, 0) Q 8 [.ref r0] [.int (w (-1))] μ1
    exact g_reti (by decide +kernel) rfl h
set_option maxRecDepth 100000 in
theorem B_FB_spoilt_13 {Γ : XG} {d : Nat} {Q : Option Value → XM → Prop} {r0 r0_9 : Nat} {x1 x2 : Int32} {μ : XM} (o_r0_10 : ob μ r0 10) (e_r0_9 : xR μ r0 9 = some r0_9) (o_r0_9_6 : ob μ r0_9 6) (h : ((x2 < xI μ r0_9 4 → Call Γ m_Pi_indexOf d [.ref r0_9, .int x2] μ (KI (fun v1 μ1 => Call Γ m_FB_valueOf d [.ref r0, .ref r0_9, .int v1] μ1 (KI (fun v2 μ2 => ((v2 = w 0 → G Γ m_FB_spoilt (d + 1) (0, 0) Q 13 [.ref r0, .int (x1 ||| ((w 1) <<< (x2 &&& 31))), .int (x2 + w 1)] [] μ2) ∧ (¬ v2 = w 0 → G Γ m_FB_spoilt (d + 1) (0, 0) Q 13 [.ref r0, .int x1, .int (x2 + w 1)] [] μ2))))))) ∧ (¬ x2 < xI μ r0_9 4 → Q (some (.int x1)) μ))) : G Γ m_FB_spoilt (d + 1) (0, 0) Q 13 [.ref r0, .int x1, .int x2] [] μ := by
  refine run_ok (pc' := 21) [(.iload_n 2, 0, 0, 0), (.aload_n 0, 0, 0, 0), (.getfield 48, 10, 9, 2), (.getfield 223, 6, 4, 0)] _ _ _ _ (by decide +kernel) ?_
  show _ ∧ (∃ _, _ ∧ (_ ∧ (_)))
  refine ⟨o_r0_10, r0_9, e_r0_9, o_r0_9_6, ?_⟩
  show G Γ m_FB_spoilt (d + 1) (0, 0) Q 21 [.ref r0, .int x1, .int x2] [.int (xI μ r0_9 4), .int x2] μ
  refine g_icmp_ge (pc' := 55) (off := 34) (by decide) (by decide +kernel) (fun hc => ?_) (fun hc => ?_)
  · replace h := h.2 hc
    show G Γ m_FB_spoilt (d + 1) (0, 0) Q 55 [.ref r0, .int x1, .int x2] [] μ
    refine run_ok (pc' := 56) [(.iload_n 1, 0, 0, 0)] _ _ _ _ (by decide +kernel) ?_
    show G Γ m_FB_spoilt (d + 1) (0, 0) Q 56 [.ref r0, .int x1, .int x2] [.int x1] μ
    exact g_reti (by decide +kernel) rfl h
  · replace h := h.1 hc
    show G Γ m_FB_spoilt (d + 1) (0, 0) Q 24 [.ref r0, .int x1, .int x2] [] μ
    refine run_ok (pc' := 34) [(.aload_n 0, 0, 0, 0), (.aload_n 0, 0, 0, 0), (.getfield 48, 10, 9, 2), (.aload_n 0, 0, 0, 0), (.getfield 48, 10, 9, 2), (.iload_n 2, 0, 0, 0)] _ _ _ _ (by decide +kernel) ?_
    show _ ∧ (∃ _, _ ∧ (_ ∧ (∃ _, _ ∧ (_))))
    refine ⟨o_r0_10, r0_9, e_r0_9, o_r0_10, r0_9, e_r0_9, ?_⟩
    show G Γ m_FB_spoilt (d + 1) (0, 0) Q 34 [.ref r0, .int x1, .int x2] [.int x2, .ref r0_9, .ref r0_9, .ref r0] μ
    refine g_invV (M' := m_Pi_indexOf) (b1 := 0) (b2 := 0) (As := [.int x2]) (a := r0_9) (st := [.ref r0_9, .ref r0]) lk_10_182 (by decide +kernel) rfl (dk_Pi_indexOf d) (Nat.le_of_ble_eq_true rfl) (Or.inl ⟨6, o_r0_9_6, rfl⟩) h ?_
    rintro _ μ1 ⟨v1, rfl, h⟩ hn1
    show G Γ m_FB_spoilt (d + 1) (0, 0) Q 37 [.ref r0, .int x1, .int x2] [.int v1, .ref r0_9, .ref r0] μ1
    refine g_invV (M' := m_FB_valueOf) (b1 := 0) (b2 := 0) (As := [.ref r0_9, .int v1]) (a := r0) (st := []) lk_10_196 (by decide +kernel) rfl (dk_FB_valueOf d) (Nat.le_of_ble_eq_true rfl) (Or.inl ⟨10, ((o_r0_10).mono hn1), rfl⟩) h ?_
    rintro _ μ2 ⟨v2, rfl, h⟩ hn2
    show G Γ m_FB_spoilt (d + 1) (0, 0) Q 40 [.ref r0, .int x1, .int x2] [.int v2] μ2
    refine g_ifz_ne (pc' := 49) (off := 9) (by decide) (by decide +kernel) (fun hc => ?_) (fun hc => ?_)
    · replace h := h.2 hc
      show G Γ m_FB_spoilt (d + 1) (0, 0) Q 49 [.ref r0, .int x1, .int x2] [] μ2
      refine run_ok (pc' := 13) [(.iinc 2 1, 0, 0, 0), (.goto (-39), 0, 0, 0)] _ _ _ _ (by decide +kernel) ?_
      show G Γ m_FB_spoilt (d + 1) (0, 0) Q 13 [.ref r0, .int x1, .int (x2 + w 1)] [] μ2
      exact h
    · replace h := h.1 hc
      show G Γ m_FB_spoilt (d + 1) (0, 0) Q 43 [.ref r0, .int x1, .int x2] [] μ2
      refine run_ok (pc' := 13) [(.iload_n 1, 0, 0, 0), (.iconst 1, 0, 0, 0), (.iload_n 2, 0, 0, 0), (.ishl, 0, 0, 0), (.ior, 0, 0, 0), (.istore_n 1, 0, 0, 0), (.iinc 2 1, 0, 0, 0), (.goto (-39), 0, 0, 0)] _ _ _ _ (by decide +kernel) ?_
      show G Γ m_FB_spoilt (d + 1) (0, 0) Q 13 [.ref r0, .int (x1 ||| ((w 1) <<< (x2 &&& 31))), .int (x2 + w 1)] [] μ2
      exact h
/-! FrostBox buried(I)I -/
set_option maxRecDepth 100000 in
theorem B_FB_buried_0 {Γ : XG} {d : Nat} {Q : Option Value → XM → Prop} {r0 r0_9 : Nat} {x1 : Int32} {μ : XM} (o_r0_10 : ob μ r0 10) (e_r0_9 : xR μ r0 9 = some r0_9) (o_r0_9_6 : ob μ r0_9 6) (h : Call Γ m_Pi_hasPlace d [.ref r0_9, .int x1] μ (KI (fun v1 μ1 => ((v1 = w 0 → Q (some (.int (w (-1)))) μ1) ∧ (¬ v1 = w 0 → xR μ1 r0 9 = some r0_9 ∧ Call Γ m_Pi_indexOf d [.ref r0_9, .int x1] μ1 (KI (fun v3 μ3 => G Γ m_FB_buried (d + 1) (0, 0) Q 26 [.ref r0, jk, .int (w 0), .int (v3 + (w 1))] [] μ3))))))) : G Γ m_FB_buried (d + 1) (0, 0) Q 0 [.ref r0, .int x1] [] μ := by
  refine run_ok (pc' := 5) [(.aload_n 0, 0, 0, 0), (.getfield 48, 10, 9, 2), (.iload_n 1, 0, 0, 0)] _ _ _ _ (by decide +kernel) ?_
  show _ ∧ (∃ _, _ ∧ (_))
  refine ⟨o_r0_10, r0_9, e_r0_9, ?_⟩
  show G Γ m_FB_buried (d + 1) (0, 0) Q 5 [.ref r0, .int x1] [.int x1, .ref r0_9] μ
  refine g_invV (M' := m_Pi_hasPlace) (b1 := 0) (b2 := 0) (As := [.int x1]) (a := r0_9) (st := []) lk_10_176 (by decide +kernel) rfl (dk_Pi_hasPlace d) (Nat.le_of_ble_eq_true rfl) (Or.inl ⟨6, o_r0_9_6, rfl⟩) h ?_
  rintro _ μ1 ⟨v1, rfl, h⟩ hn1
  show G Γ m_FB_buried (d + 1) (0, 0) Q 8 [.ref r0, .int x1] [.int v1] μ1
  refine g_ifz_ne (pc' := 13) (off := 5) (by decide) (by decide +kernel) (fun hc => ?_) (fun hc => ?_)
  · replace h := h.2 hc
    show G Γ m_FB_buried (d + 1) (0, 0) Q 13 [.ref r0, .int x1] [] μ1
    obtain ⟨ea2, h⟩ := h
    refine run_ok (pc' := 20) [(.iconst 0, 0, 0, 0), (.istore_n 2, 0, 0, 0), (.aload_n 0, 0, 0, 0), (.getfield 48, 10, 9, 2), (.iload_n 1, 0, 0, 0)] _ _ _ _ (by decide +kernel) ?_
    show _ ∧ (∃ _, _ ∧ (_))
    refine ⟨((o_r0_10).mono hn1), r0_9, ea2, ?_⟩
    show G Γ m_FB_buried (d + 1) (0, 0) Q 20 [.ref r0, .int x1, .int (w 0)] [.int x1, .ref r0_9] μ1
    refine g_invV (M' := m_Pi_indexOf) (b1 := 0) (b2 := 0) (As := [.int x1]) (a := r0_9) (st := []) lk_10_182 (by decide +kernel) rfl (dk_Pi_indexOf d) (Nat.le_of_ble_eq_true rfl) (Or.inl ⟨6, ((o_r0_9_6).mono hn1), rfl⟩) h ?_
    rintro _ μ3 ⟨v3, rfl, h⟩ hn3
    show G Γ m_FB_buried (d + 1) (0, 0) Q 23 [.ref r0, .int x1, .int (w 0)] [.int v3] μ3
    refine run_ok (pc' := 26) [(.iconst 1, 0, 0, 0), (.iadd, 0, 0, 0), (.istore_n 3, 0, 0, 0)] _ _ _ _ (by decide +kernel) ?_
    show G Γ m_FB_buried (d + 1) (0, 0) Q 26 [.ref r0, .int x1, .int (w 0), .int (v3 + (w 1))] [] μ3
    exact g_wk (ls' := [.ref r0, jk, .int (w 0), .int (v3 + (w 1))]) ⟨Or.inr rfl, Or.inl rfl, Or.inr rfl, Or.inr rfl, trivial⟩ h
  · replace h := h.1 hc
    show G Γ m_FB_buried (d + 1) (0, 0) Q 11 [.ref r0, .int x1] [] μ1
    refine run_ok (pc' := 12) [(.iconst (-1), 0, 0, 0)] _ _ _ _ (by decide +kernel) ?_
    show G Γ m_FB_buried (d + 1) (0, 0) Q 12 [.ref r0, .int x1] [.int (w (-1))] μ1
    exact g_reti (by decide +kernel) rfl h
set_option maxRecDepth 100000 in
theorem B_FB_buried_26 {Γ : XG} {d : Nat} {Q : Option Value → XM → Prop} {r0 r0_9 r0_9_1 : Nat} {x2 x3 : Int32} {μ : XM} (o_r0_10 : ob μ r0 10) (e_r0_9 : xR μ r0 9 = some r0_9) (o_r0_9_6 : ob μ r0_9 6) (e_r0_9_1 : xR μ r0_9 1 = some r0_9_1) (h : ((x3 < xI μ r0_9 4 → inb μ 0 r0_9_1 x3 ∧ G Γ m_FB_buried (d + 1) (0, 0) Q 26 [.ref r0, jk, .int (x2 + (xI μ r0_9_1 x3.toNatClampNeg)), .int (x3 + w 1)] [] μ) ∧ (¬ x3 < xI μ r0_9 4 → Q (some (.int x2)) μ))) : G Γ m_FB_buried (d + 1) (0, 0) Q 26 [.ref r0, jk, .int x2, .int x3] [] μ := by
  refine run_ok (pc' := 34) [(.iload_n 3, 0, 0, 0), (.aload_n 0, 0, 0, 0), (.getfield 48, 10, 9, 2), (.getfield 223, 6, 4, 0)] _ _ _ _ (by decide +kernel) ?_
  show _ ∧ (∃ _, _ ∧ (_ ∧ (_)))
  refine ⟨o_r0_10, r0_9, e_r0_9, o_r0_9_6, ?_⟩
  show G Γ m_FB_buried (d + 1) (0, 0) Q 34 [.ref r0, jk, .int x2, .int x3] [.int (xI μ r0_9 4), .int x3] μ
  refine g_icmp_ge (pc' := 55) (off := 21) (by decide) (by decide +kernel) (fun hc => ?_) (fun hc => ?_)
  · replace h := h.2 hc
    show G Γ m_FB_buried (d + 1) (0, 0) Q 55 [.ref r0, jk, .int x2, .int x3] [] μ
    refine run_ok (pc' := 56) [(.iload_n 2, 0, 0, 0)] _ _ _ _ (by decide +kernel) ?_
    show G Γ m_FB_buried (d + 1) (0, 0) Q 56 [.ref r0, jk, .int x2, .int x3] [.int x2] μ
    exact g_reti (by decide +kernel) rfl h
  · replace h := h.1 hc
    show G Γ m_FB_buried (d + 1) (0, 0) Q 37 [.ref r0, jk, .int x2, .int x3] [] μ
    obtain ⟨ib1, h⟩ := h
    refine run_ok (pc' := 26) [(.iload_n 2, 0, 0, 0), (.aload_n 0, 0, 0, 0), (.getfield 48, 10, 9, 2), (.getfield 187, 6, 1, 2), (.iload_n 3, 0, 0, 0), (.iaload, 0, 0, 0), (.iadd, 0, 0, 0), (.istore_n 2, 0, 0, 0), (.iinc 3 1, 0, 0, 0), (.goto (-26), 0, 0, 0)] _ _ _ _ (by decide +kernel) ?_
    show _ ∧ (∃ _, _ ∧ (_ ∧ (∃ _, _ ∧ (_ ∧ (_)))))
    refine ⟨o_r0_10, r0_9, e_r0_9, o_r0_9_6, r0_9_1, e_r0_9_1, ib1, ?_⟩
    show G Γ m_FB_buried (d + 1) (0, 0) Q 26 [.ref r0, jk, .int (x2 + (xI μ r0_9_1 x3.toNatClampNeg)), .int (x3 + w 1)] [] μ
    exact h
/-! FrostBox soonest(I)I -/
set_option maxRecDepth 100000 in
theorem B_FB_soonest_0 {Γ : XG} {d : Nat} {Q : Option Value → XM → Prop} {r0 r0_9 : Nat} {x1 : Int32} {μ : XM} (o_r0_10 : ob μ r0 10) (e_r0_9 : xR μ r0 9 = some r0_9) (o_r0_9_6 : ob μ r0_9 6) (h : Call Γ m_Pi_hasPlace d [.ref r0_9, .int x1] μ (KI (fun v1 μ1 => ((v1 = w 0 → Q (some (.int (w (-1)))) μ1) ∧ (¬ v1 = w 0 → xR μ1 r0 9 = some r0_9 ∧ Call Γ m_Pi_indexOf d [.ref r0_9, .int x1] μ1 (KI (fun v3 μ3 => G Γ m_FB_soonest (d + 1) (0, 0) Q 24 [.ref r0, jk, .int v3, .int (w 0)] [] μ3))))))) : G Γ m_FB_soonest (d + 1) (0, 0) Q 0 [.ref r0, .int x1] [] μ := by
  refine run_ok (pc' := 5) [(.aload_n 0, 0, 0, 0), (.getfield 48, 10, 9, 2), (.iload_n 1, 0, 0, 0)] _ _ _ _ (by decide +kernel) ?_
  show _ ∧ (∃ _, _ ∧ (_))
  refine ⟨o_r0_10, r0_9, e_r0_9, ?_⟩
  show G Γ m_FB_soonest (d + 1) (0, 0) Q 5 [.ref r0, .int x1] [.int x1, .ref r0_9] μ
  refine g_invV (M' := m_Pi_hasPlace) (b1 := 0) (b2 := 0) (As := [.int x1]) (a := r0_9) (st := []) lk_10_176 (by decide +kernel) rfl (dk_Pi_hasPlace d) (Nat.le_of_ble_eq_true rfl) (Or.inl ⟨6, o_r0_9_6, rfl⟩) h ?_
  rintro _ μ1 ⟨v1, rfl, h⟩ hn1
  show G Γ m_FB_soonest (d + 1) (0, 0) Q 8 [.ref r0, .int x1] [.int v1] μ1
  refine g_ifz_ne (pc' := 13) (off := 5) (by decide) (by decide +kernel) (fun hc => ?_) (fun hc => ?_)
  · replace h := h.2 hc
    show G Γ m_FB_soonest (d + 1) (0, 0) Q 13 [.ref r0, .int x1] [] μ1
    obtain ⟨ea2, h⟩ := h
    refine run_ok (pc' := 18) [(.aload_n 0, 0, 0, 0), (.getfield 48, 10, 9, 2), (.iload_n 1, 0, 0, 0)] _ _ _ _ (by decide +kernel) ?_
    show _ ∧ (∃ _, _ ∧ (_))
    refine ⟨((o_r0_10).mono hn1), r0_9, ea2, ?_⟩
    show G Γ m_FB_soonest (d + 1) (0, 0) Q 18 [.ref r0, .int x1] [.int x1, .ref r0_9] μ1
    refine g_invV (M' := m_Pi_indexOf) (b1 := 0) (b2 := 0) (As := [.int x1]) (a := r0_9) (st := []) lk_10_182 (by decide +kernel) rfl (dk_Pi_indexOf d) (Nat.le_of_ble_eq_true rfl) (Or.inl ⟨6, ((o_r0_9_6).mono hn1), rfl⟩) h ?_
    rintro _ μ3 ⟨v3, rfl, h⟩ hn3
    show G Γ m_FB_soonest (d + 1) (0, 0) Q 21 [.ref r0, .int x1] [.int v3] μ3
    refine run_ok (pc' := 24) [(.istore_n 2, 0, 0, 0), (.iconst 0, 0, 0, 0), (.istore_n 3, 0, 0, 0)] _ _ _ _ (by decide +kernel) ?_
    show G Γ m_FB_soonest (d + 1) (0, 0) Q 24 [.ref r0, .int x1, .int v3, .int (w 0)] [] μ3
    exact g_wk (ls' := [.ref r0, jk, .int v3, .int (w 0)]) ⟨Or.inr rfl, Or.inl rfl, Or.inr rfl, Or.inr rfl, trivial⟩ h
  · replace h := h.1 hc
    show G Γ m_FB_soonest (d + 1) (0, 0) Q 11 [.ref r0, .int x1] [] μ1
    refine run_ok (pc' := 12) [(.iconst (-1), 0, 0, 0)] _ _ _ _ (by decide +kernel) ?_
    show G Γ m_FB_soonest (d + 1) (0, 0) Q 12 [.ref r0, .int x1] [.int (w (-1))] μ1
    exact g_reti (by decide +kernel) rfl h
set_option maxRecDepth 100000 in
theorem B_FB_soonest_24 {Γ : XG} {d : Nat} {Q : Option Value → XM → Prop} {r0 r0_9 : Nat} {x2 x3 : Int32} {μ : XM} (o_r0_10 : ob μ r0 10) (e_r0_9 : xR μ r0 9 = some r0_9) (h : ((w 99 < x3 → Q (some (.int (w (-1)))) μ) ∧ (¬ w 99 < x3 → Call Γ m_FB_valueThen d [.ref r0, .ref r0_9, .int x2, .int x3, .int x3, .int x2] μ (KI (fun v1 μ1 => ((v1 = w 0 → Q (some (.int x3)) μ1) ∧ (¬ v1 = w 0 → G Γ m_FB_soonest (d + 1) (0, 0) Q 24 [.ref r0, jk, .int x2, .int (x3 + w 1)] [] μ1))))))) : G Γ m_FB_soonest (d + 1) (0, 0) Q 24 [.ref r0, jk, .int x2, .int x3] [] μ := by
  refine run_ok (pc' := 27) [(.iload_n 3, 0, 0, 0), (.bipush 99, 0, 0, 0)] _ _ _ _ (by decide +kernel) ?_
  show G Γ m_FB_soonest (d + 1) (0, 0) Q 27 [.ref r0, jk, .int x2, .int x3] [.int (w 99), .int x3] μ
  refine g_icmp_gt (pc' := 53) (off := 26) (by decide) (by decide +kernel) (fun hc => ?_) (fun hc => ?_)
  · replace h := h.1 hc
    show G Γ m_FB_soonest (d + 1) (0, 0) Q 53 [.ref r0, jk, .int x2, .int x3] [] μ
    refine run_ok (pc' := 54) [(.iconst (-1), 0, 0, 0)] _ _ _ _ (by decide +kernel) ?_
    show G Γ m_FB_soonest (d + 1) (0, 0) Q 54 [.ref r0, jk, .int x2, .int x3] [.int (w (-1))] μ
    exact g_reti (by decide +kernel) rfl h
  · replace h := h.2 hc
    show G Γ m_FB_soonest (d + 1) (0, 0) Q 30 [.ref r0, jk, .int x2, .int x3] [] μ
    refine run_ok (pc' := 39) [(.aload_n 0, 0, 0, 0), (.aload_n 0, 0, 0, 0), (.getfield 48, 10, 9, 2), (.iload_n 2, 0, 0, 0), (.iload_n 3, 0, 0, 0), (.iload_n 3, 0, 0, 0), (.iload_n 2, 0, 0, 0)] _ _ _ _ (by decide +kernel) ?_
    show _ ∧ (∃ _, _ ∧ (_))
    refine ⟨o_r0_10, r0_9, e_r0_9, ?_⟩
    show G Γ m_FB_soonest (d + 1) (0, 0) Q 39 [.ref r0, jk, .int x2, .int x3] [.int x2, .int x3, .int x3, .int x2, .ref r0_9, .ref r0] μ
    refine g_invV (M' := m_FB_valueThen) (b1 := 0) (b2 := 0) (As := [.ref r0_9, .int x2, .int x3, .int x3, .int x2]) (a := r0) (st := []) lk_10_224 (by decide +kernel) rfl (dk_FB_valueThen d) (Nat.le_of_ble_eq_true rfl) (Or.inl ⟨10, o_r0_10, rfl⟩) h ?_
    rintro _ μ1 ⟨v1, rfl, h⟩ hn1
    show G Γ m_FB_soonest (d + 1) (0, 0) Q 42 [.ref r0, jk, .int x2, .int x3] [.int v1] μ1
    refine g_ifz_ne (pc' := 47) (off := 5) (by decide) (by decide +kernel) (fun hc => ?_) (fun hc => ?_)
    · replace h := h.2 hc
      show G Γ m_FB_soonest (d + 1) (0, 0) Q 47 [.ref r0, jk, .int x2, .int x3] [] μ1
      refine run_ok (pc' := 24) [(.iinc 3 1, 0, 0, 0), (.goto (-26), 0, 0, 0)] _ _ _ _ (by decide +kernel) ?_
      show G Γ m_FB_soonest (d + 1) (0, 0) Q 24 [.ref r0, jk, .int x2, .int (x3 + w 1)] [] μ1
      exact h
    · replace h := h.1 hc
      show G Γ m_FB_soonest (d + 1) (0, 0) Q 45 [.ref r0, jk, .int x2, .int x3] [] μ1
      refine run_ok (pc' := 46) [(.iload_n 3, 0, 0, 0)] _ _ _ _ (by decide +kernel) ?_
      show G Γ m_FB_soonest (d + 1) (0, 0) Q 46 [.ref r0, jk, .int x2, .int x3] [.int x3] μ1
      exact g_reti (by decide +kernel) rfl h
/-! FrostBox monthly(I)I -/
set_option maxRecDepth 100000 in
theorem B_FB_monthly_0 {Γ : XG} {d : Nat} {Q : Option Value → XM → Prop} {r0 : Nat} {x1 : Int32} {μ : XM} (o_r0_10 : ob μ r0 10) (h : Call Γ m_FB_hasHouse d [.ref r0] μ (KI (fun v1 μ1 => ((v1 = w 0 → Q (some (.int (w (-1)))) μ1) ∧ (¬ v1 = w 0 → ((x1 < w 0 → Q (some (.int (w (-1)))) μ1) ∧ (¬ x1 < w 0 → ((w 60 < x1 → Q (some (.int (w (-1)))) μ1) ∧ (¬ w 60 < x1 → Call Γ m_FB_valueOfAll d [.ref r0, .int x1, .int x1] μ1 (KI (fun v2 μ2 => Q (some (.int v2)) μ2))))))))))) : G Γ m_FB_monthly (d + 1) (0, 0) Q 0 [.ref r0, .int x1] [] μ := by
  refine run_ok (pc' := 1) [(.aload_n 0, 0, 0, 0)] _ _ _ _ (by decide +kernel) ?_
  show G Γ m_FB_monthly (d + 1) (0, 0) Q 1 [.ref r0, .int x1] [.ref r0] μ
  refine g_invV (M' := m_FB_hasHouse) (b1 := 0) (b2 := 0) (As := []) (a := r0) (st := []) lk_10_162 (by decide +kernel) rfl (dk_FB_hasHouse d) (Nat.le_of_ble_eq_true rfl) (Or.inl ⟨10, o_r0_10, rfl⟩) h ?_
  rintro _ μ1 ⟨v1, rfl, h⟩ hn1
  show G Γ m_FB_monthly (d + 1) (0, 0) Q 4 [.ref r0, .int x1] [.int v1] μ1
  refine g_ifz_eq (pc' := 17) (off := 13) (by decide) (by decide +kernel) (fun hc => ?_) (fun hc => ?_)
  · replace h := h.1 hc
    show G Γ m_FB_monthly (d + 1) (0, 0) Q 17 [.ref r0, .int x1] [] μ1
    refine run_ok (pc' := 18) [(.iconst (-1), 0, 0, 0)] _ _ _ _ (by decide +kernel) ?_
    show G Γ m_FB_monthly (d + 1) (0, 0) Q 18 [.ref r0, .int x1] [.int (w (-1))] μ1
    exact g_reti (by decide +kernel) rfl h
  · replace h := h.2 hc
    show G Γ m_FB_monthly (d + 1) (0, 0) Q 7 [.ref r0, .int x1] [] μ1
    refine run_ok (pc' := 8) [(.iload_n 1, 0, 0, 0)] _ _ _ _ (by decide +kernel) ?_
    show G Γ m_FB_monthly (d + 1) (0, 0) Q 8 [.ref r0, .int x1] [.int x1] μ1
    refine g_ifz_lt (pc' := 17) (off := 9) (by decide) (by decide +kernel) (fun hc => ?_) (fun hc => ?_)
    · replace h := h.1 hc
      show G Γ m_FB_monthly (d + 1) (0, 0) Q 17 [.ref r0, .int x1] [] μ1
      refine run_ok (pc' := 18) [(.iconst (-1), 0, 0, 0)] _ _ _ _ (by decide +kernel) ?_
      show G Γ m_FB_monthly (d + 1) (0, 0) Q 18 [.ref r0, .int x1] [.int (w (-1))] μ1
      exact g_reti (by decide +kernel) rfl h
    · replace h := h.2 hc
      show G Γ m_FB_monthly (d + 1) (0, 0) Q 11 [.ref r0, .int x1] [] μ1
      refine run_ok (pc' := 14) [(.iload_n 1, 0, 0, 0), (.bipush 60, 0, 0, 0)] _ _ _ _ (by decide +kernel) ?_
      show G Γ m_FB_monthly (d + 1) (0, 0) Q 14 [.ref r0, .int x1] [.int (w 60), .int x1] μ1
      refine g_icmp_le (pc' := 19) (off := 5) (by decide) (by decide +kernel) (fun hc => ?_) (fun hc => ?_)
      · replace h := h.2 hc
        show G Γ m_FB_monthly (d + 1) (0, 0) Q 19 [.ref r0, .int x1] [] μ1
        refine run_ok (pc' := 22) [(.aload_n 0, 0, 0, 0), (.iload_n 1, 0, 0, 0), (.iload_n 1, 0, 0, 0)] _ _ _ _ (by decide +kernel) ?_
        show G Γ m_FB_monthly (d + 1) (0, 0) Q 22 [.ref r0, .int x1] [.int x1, .int x1, .ref r0] μ1
        refine g_invV (M' := m_FB_valueOfAll) (b1 := 0) (b2 := 0) (As := [.int x1, .int x1]) (a := r0) (st := []) lk_10_379 (by decide +kernel) rfl (dk_FB_valueOfAll d) (Nat.le_of_ble_eq_true rfl) (Or.inl ⟨10, ((o_r0_10).mono hn1), rfl⟩) h ?_
        rintro _ μ2 ⟨v2, rfl, h⟩ hn2
        show G Γ m_FB_monthly (d + 1) (0, 0) Q 25 [.ref r0, .int x1] [.int v2] μ2
        exact g_reti (by decide +kernel) rfl h
      · replace h := h.1 hc
        show G Γ m_FB_monthly (d + 1) (0, 0) Q 17 [.ref r0, .int x1] [] μ1
        refine run_ok (pc' := 18) [(.iconst (-1), 0, 0, 0)] _ _ _ _ (by decide +kernel) ?_
        show G Γ m_FB_monthly (d + 1) (0, 0) Q 18 [.ref r0, .int x1] [.int (w (-1))] μ1
        exact g_reti (by decide +kernel) rfl h
/-! FrostBox count(I)I -/
set_option maxRecDepth 100000 in
theorem lk_10_437 : LkV 10 437 m_Me_valueInAll 0 := ⟨lc_Me_valueInAll, lwG_in (List.mem_of_getElem? (i := 1123) rfl) rfl, lwG_in (List.mem_of_getElem? (i := 1124) rfl) rfl, lwG_in (List.mem_of_getElem? (i := 1125) rfl) rfl⟩
set_option maxRecDepth 100000 in
theorem B_FB_count_0 {Γ : XG} {d : Nat} {Q : Option Value → XM → Prop} {r0 r0_9 r0_0 r0_14 r0_15 r0_12 r0_11 : Nat} {x1 : Int32} {μ : XM} (o_r0_10 : ob μ r0 10) (e_r0_9 : xR μ r0 9 = some r0_9) (o_r0_9_6 : ob μ r0_9 6) (e_r0_0 : xR μ r0 0 = some r0_0) (o_r0_0_9 : ob μ r0_0 9) (e_r0_14 : xR μ r0 14 = some r0_14) (o_r0_14_3 : ob μ r0_14 3) (e_r0_15 : xR μ r0 15 = some r0_15) (o_r0_15_5 : ob μ r0_15 5) (e_r0_12 : xR μ r0 12 = some r0_12) (o_r0_12_4 : ob μ r0_12 4) (e_r0_11 : xR μ r0 11 = some r0_11) (o_r0_11_0 : ob μ r0_11 0) (h : (((x1 < w 0 ∨ w 14 < x1) → Q (some (.int (w (-1000000)))) μ) ∧ (x1 = w 0 → Call Γ m_FB_hasHouse d [.ref r0] μ (KI (fun v1 μ1 => ((v1 = w 0 → Q (some (.int (w 0))) μ1) ∧ (¬ v1 = w 0 → ∃ a2, xR μ1 r0 1 = some a2 ∧ ob μ1 a2 1 ∧ Q (some (.int (xI μ1 a2 4))) μ1))))) ∧ (x1 = w 1 → Q (some (.int (xI μ r0_9 4))) μ) ∧ (x1 = w 2 → Q (some (.int (xI μ r0 4))) μ) ∧ (x1 = w 3 → Q (some (.int (xI μ r0 7))) μ) ∧ (x1 = w 4 → Q (some (.int (xI μ r0_0 1))) μ) ∧ (x1 = w 5 → Q (some (.int (xI μ r0 5))) μ) ∧ (x1 = w 6 → Q (some (.int (xI μ r0_9 5))) μ) ∧ (x1 = w 7 → Call Γ m_Pi_portionsInAll d [.ref r0_9] μ (KI (fun v3 μ3 => Q (some (.int v3)) μ3))) ∧ (x1 = w 8 → Call Γ m_FB_valueOfAll d [.ref r0, .int (w 0), .int (w 0)] μ (KI (fun v4 μ4 => Q (some (.int v4)) μ4))) ∧ (x1 = w 9 → Q (some (.int (xI μ r0 8))) μ) ∧ (x1 = w 10 → Q (some (.int (xI μ r0_14 2))) μ) ∧ (x1 = w 11 → Q (some (.int (xI μ r0_15 5))) μ) ∧ (x1 = w 12 → Call Γ m_Me_valueInAll d [.ref r0_12] μ (KI (fun v5 μ5 => Q (some (.int v5)) μ5))) ∧ (x1 = w 13 → Call Γ m_Me_length d [.ref r0_12] μ (KI (fun v6 μ6 => Q (some (.int v6)) μ6))) ∧ (x1 = w 14 → Q (some (.int (xI μ r0_11 3))) μ))) : G Γ m_FB_count (d + 1) (0, 0) Q 0 [.ref r0, .int x1] [] μ := by
  refine run_ok (pc' := 1) [(.iload_n 1, 0, 0, 0)] _ _ _ _ (by decide +kernel) ?_
  show G Γ m_FB_count (d + 1) (0, 0) Q 1 [.ref r0, .int x1] [.int x1] μ
  refine g_sw (df := 193) (lo := 0) (n := 15) (offs := #[75, 94, 102, 107, 112, 120, 125, 133, 141, 148, 153, 161, 169, 177, 185]) (len := 75) (by decide +kernel) (by decide) (pd := 194) (by decide) (fun hc => ?_) (fun k hk hc => ?_)
  · replace h := h.1 hc
    show G Γ m_FB_count (d + 1) (0, 0) Q 194 [.ref r0, .int x1] [] μ
    refine run_ok (pc' := 197) [(.ldc_w 311, 0, 0, (-1000000))] _ _ _ _ (by decide +kernel) ?_
    show G Γ m_FB_count (d + 1) (0, 0) Q 197 [.ref r0, .int x1] [.int (w (-1000000))] μ
    exact g_reti (by decide +kernel) rfl h
  · replace h := h.2
    match k, hk, hc with
    | 0, _, hc =>
      replace h := h.1 hc
      refine ⟨76, 75, rfl, by decide, ?_⟩
      show G Γ m_FB_count (d + 1) (0, 0) Q 76 [.ref r0, .int x1] [] μ
      refine run_ok (pc' := 77) [(.aload_n 0, 0, 0, 0)] _ _ _ _ (by decide +kernel) ?_
      show G Γ m_FB_count (d + 1) (0, 0) Q 77 [.ref r0, .int x1] [.ref r0] μ
      refine g_invV (M' := m_FB_hasHouse) (b1 := 0) (b2 := 0) (As := []) (a := r0) (st := []) lk_10_162 (by decide +kernel) rfl (dk_FB_hasHouse d) (Nat.le_of_ble_eq_true rfl) (Or.inl ⟨10, o_r0_10, rfl⟩) h ?_
      rintro _ μ1 ⟨v1, rfl, h⟩ hn1
      show G Γ m_FB_count (d + 1) (0, 0) Q 80 [.ref r0, .int x1] [.int v1] μ1
      refine g_ifz_eq (pc' := 93) (off := 13) (by decide) (by decide +kernel) (fun hc => ?_) (fun hc => ?_)
      · replace h := h.1 hc
        show G Γ m_FB_count (d + 1) (0, 0) Q 93 [.ref r0, .int x1] [] μ1
        refine run_ok (pc' := 94) [(.iconst 0, 0, 0, 0)] _ _ _ _ (by decide +kernel) ?_
        show G Γ m_FB_count (d + 1) (0, 0) Q 94 [.ref r0, .int x1] [.int (w 0)] μ1
        exact g_reti (by decide +kernel) rfl h
      · replace h := h.2 hc
        show G Γ m_FB_count (d + 1) (0, 0) Q 83 [.ref r0, .int x1] [] μ1
        obtain ⟨a2, ea2, h⟩ := h
        obtain ⟨o_a2_1, h⟩ := h
        refine run_ok (pc' := 94) [(.aload_n 0, 0, 0, 0), (.getfield 19, 10, 1, 2), (.getfield 161, 1, 4, 0), (.goto 4, 0, 0, 0)] _ _ _ _ (by decide +kernel) ?_
        show _ ∧ (∃ _, _ ∧ (_ ∧ (_)))
        refine ⟨((o_r0_10).mono hn1), a2, ea2, o_a2_1, ?_⟩
        show G Γ m_FB_count (d + 1) (0, 0) Q 94 [.ref r0, .int x1] [.int (xI μ1 a2 4)] μ1
        exact g_reti (by decide +kernel) rfl h
    | 1, _, hc =>
      replace h := h.2.1 hc
      refine ⟨95, 94, rfl, by decide, ?_⟩
      show G Γ m_FB_count (d + 1) (0, 0) Q 95 [.ref r0, .int x1] [] μ
      refine run_ok (pc' := 102) [(.aload_n 0, 0, 0, 0), (.getfield 48, 10, 9, 2), (.getfield 223, 6, 4, 0)] _ _ _ _ (by decide +kernel) ?_
      show _ ∧ (∃ _, _ ∧ (_ ∧ (_)))
      refine ⟨o_r0_10, r0_9, e_r0_9, o_r0_9_6, ?_⟩
      show G Γ m_FB_count (d + 1) (0, 0) Q 102 [.ref r0, .int x1] [.int (xI μ r0_9 4)] μ
      exact g_reti (by decide +kernel) rfl h
    | 2, _, hc =>
      replace h := h.2.2.1 hc
      refine ⟨103, 102, rfl, by decide, ?_⟩
      show G Γ m_FB_count (d + 1) (0, 0) Q 103 [.ref r0, .int x1] [] μ
      refine run_ok (pc' := 107) [(.aload_n 0, 0, 0, 0), (.getfield 134, 10, 4, 0)] _ _ _ _ (by decide +kernel) ?_
      show _ ∧ (_)
      refine ⟨o_r0_10, ?_⟩
      show G Γ m_FB_count (d + 1) (0, 0) Q 107 [.ref r0, .int x1] [.int (xI μ r0 4)] μ
      exact g_reti (by decide +kernel) rfl h
    | 3, _, hc =>
      replace h := h.2.2.2.1 hc
      refine ⟨108, 107, rfl, by decide, ?_⟩
      show G Γ m_FB_count (d + 1) (0, 0) Q 108 [.ref r0, .int x1] [] μ
      refine run_ok (pc' := 112) [(.aload_n 0, 0, 0, 0), (.getfield 138, 10, 7, 0)] _ _ _ _ (by decide +kernel) ?_
      show _ ∧ (_)
      refine ⟨o_r0_10, ?_⟩
      show G Γ m_FB_count (d + 1) (0, 0) Q 112 [.ref r0, .int x1] [.int (xI μ r0 7)] μ
      exact g_reti (by decide +kernel) rfl h
    | 4, _, hc =>
      replace h := h.2.2.2.2.1 hc
      refine ⟨113, 112, rfl, by decide, ?_⟩
      show G Γ m_FB_count (d + 1) (0, 0) Q 113 [.ref r0, .int x1] [] μ
      refine run_ok (pc' := 120) [(.aload_n 0, 0, 0, 0), (.getfield 10, 10, 0, 2), (.getfield 106, 9, 1, 0)] _ _ _ _ (by decide +kernel) ?_
      show _ ∧ (∃ _, _ ∧ (_ ∧ (_)))
      refine ⟨o_r0_10, r0_0, e_r0_0, o_r0_0_9, ?_⟩
      show G Γ m_FB_count (d + 1) (0, 0) Q 120 [.ref r0, .int x1] [.int (xI μ r0_0 1)] μ
      exact g_reti (by decide +kernel) rfl h
    | 5, _, hc =>
      replace h := h.2.2.2.2.2.1 hc
      refine ⟨121, 120, rfl, by decide, ?_⟩
      show G Γ m_FB_count (d + 1) (0, 0) Q 121 [.ref r0, .int x1] [] μ
      refine run_ok (pc' := 125) [(.aload_n 0, 0, 0, 0), (.getfield 32, 10, 5, 0)] _ _ _ _ (by decide +kernel) ?_
      show _ ∧ (_)
      refine ⟨o_r0_10, ?_⟩
      show G Γ m_FB_count (d + 1) (0, 0) Q 125 [.ref r0, .int x1] [.int (xI μ r0 5)] μ
      exact g_reti (by decide +kernel) rfl h
    | 6, _, hc =>
      replace h := h.2.2.2.2.2.2.1 hc
      refine ⟨126, 125, rfl, by decide, ?_⟩
      show G Γ m_FB_count (d + 1) (0, 0) Q 126 [.ref r0, .int x1] [] μ
      refine run_ok (pc' := 133) [(.aload_n 0, 0, 0, 0), (.getfield 48, 10, 9, 2), (.getfield 209, 6, 5, 0)] _ _ _ _ (by decide +kernel) ?_
      show _ ∧ (∃ _, _ ∧ (_ ∧ (_)))
      refine ⟨o_r0_10, r0_9, e_r0_9, o_r0_9_6, ?_⟩
      show G Γ m_FB_count (d + 1) (0, 0) Q 133 [.ref r0, .int x1] [.int (xI μ r0_9 5)] μ
      exact g_reti (by decide +kernel) rfl h
    | 7, _, hc =>
      replace h := h.2.2.2.2.2.2.2.1 hc
      refine ⟨134, 133, rfl, by decide, ?_⟩
      show G Γ m_FB_count (d + 1) (0, 0) Q 134 [.ref r0, .int x1] [] μ
      refine run_ok (pc' := 138) [(.aload_n 0, 0, 0, 0), (.getfield 48, 10, 9, 2)] _ _ _ _ (by decide +kernel) ?_
      show _ ∧ (∃ _, _ ∧ (_))
      refine ⟨o_r0_10, r0_9, e_r0_9, ?_⟩
      show G Γ m_FB_count (d + 1) (0, 0) Q 138 [.ref r0, .int x1] [.ref r0_9] μ
      refine g_invV (M' := m_Pi_portionsInAll) (b1 := 0) (b2 := 0) (As := []) (a := r0_9) (st := []) lk_10_227 (by decide +kernel) rfl (dk_Pi_portionsInAll d) (Nat.le_of_ble_eq_true rfl) (Or.inl ⟨6, o_r0_9_6, rfl⟩) h ?_
      rintro _ μ3 ⟨v3, rfl, h⟩ hn3
      show G Γ m_FB_count (d + 1) (0, 0) Q 141 [.ref r0, .int x1] [.int v3] μ3
      exact g_reti (by decide +kernel) rfl h
    | 8, _, hc =>
      replace h := h.2.2.2.2.2.2.2.2.1 hc
      refine ⟨142, 141, rfl, by decide, ?_⟩
      show G Γ m_FB_count (d + 1) (0, 0) Q 142 [.ref r0, .int x1] [] μ
      refine run_ok (pc' := 145) [(.aload_n 0, 0, 0, 0), (.iconst 0, 0, 0, 0), (.iconst 0, 0, 0, 0)] _ _ _ _ (by decide +kernel) ?_
      show G Γ m_FB_count (d + 1) (0, 0) Q 145 [.ref r0, .int x1] [.int (w 0), .int (w 0), .ref r0] μ
      refine g_invV (M' := m_FB_valueOfAll) (b1 := 0) (b2 := 0) (As := [.int (w 0), .int (w 0)]) (a := r0) (st := []) lk_10_379 (by decide +kernel) rfl (dk_FB_valueOfAll d) (Nat.le_of_ble_eq_true rfl) (Or.inl ⟨10, o_r0_10, rfl⟩) h ?_
      rintro _ μ4 ⟨v4, rfl, h⟩ hn4
      show G Γ m_FB_count (d + 1) (0, 0) Q 148 [.ref r0, .int x1] [.int v4] μ4
      exact g_reti (by decide +kernel) rfl h
    | 9, _, hc =>
      replace h := h.2.2.2.2.2.2.2.2.2.1 hc
      refine ⟨149, 148, rfl, by decide, ?_⟩
      show G Γ m_FB_count (d + 1) (0, 0) Q 149 [.ref r0, .int x1] [] μ
      refine run_ok (pc' := 153) [(.aload_n 0, 0, 0, 0), (.getfield 42, 10, 8, 0)] _ _ _ _ (by decide +kernel) ?_
      show _ ∧ (_)
      refine ⟨o_r0_10, ?_⟩
      show G Γ m_FB_count (d + 1) (0, 0) Q 153 [.ref r0, .int x1] [.int (xI μ r0 8)] μ
      exact g_reti (by decide +kernel) rfl h
    | 10, _, hc =>
      replace h := h.2.2.2.2.2.2.2.2.2.2.1 hc
      refine ⟨154, 153, rfl, by decide, ?_⟩
      show G Γ m_FB_count (d + 1) (0, 0) Q 154 [.ref r0, .int x1] [] μ
      refine run_ok (pc' := 161) [(.aload_n 0, 0, 0, 0), (.getfield 79, 10, 14, 2), (.getfield 159, 3, 2, 0)] _ _ _ _ (by decide +kernel) ?_
      show _ ∧ (∃ _, _ ∧ (_ ∧ (_)))
      refine ⟨o_r0_10, r0_14, e_r0_14, o_r0_14_3, ?_⟩
      show G Γ m_FB_count (d + 1) (0, 0) Q 161 [.ref r0, .int x1] [.int (xI μ r0_14 2)] μ
      exact g_reti (by decide +kernel) rfl h
    | 11, _, hc =>
      replace h := h.2.2.2.2.2.2.2.2.2.2.2.1 hc
      refine ⟨162, 161, rfl, by decide, ?_⟩
      show G Γ m_FB_count (d + 1) (0, 0) Q 162 [.ref r0, .int x1] [] μ
      refine run_ok (pc' := 169) [(.aload_n 0, 0, 0, 0), (.getfield 86, 10, 15, 2), (.getfield 160, 5, 5, 0)] _ _ _ _ (by decide +kernel) ?_
      show _ ∧ (∃ _, _ ∧ (_ ∧ (_)))
      refine ⟨o_r0_10, r0_15, e_r0_15, o_r0_15_5, ?_⟩
      show G Γ m_FB_count (d + 1) (0, 0) Q 169 [.ref r0, .int x1] [.int (xI μ r0_15 5)] μ
      exact g_reti (by decide +kernel) rfl h
    | 12, _, hc =>
      replace h := h.2.2.2.2.2.2.2.2.2.2.2.2.1 hc
      refine ⟨170, 169, rfl, by decide, ?_⟩
      show G Γ m_FB_count (d + 1) (0, 0) Q 170 [.ref r0, .int x1] [] μ
      refine run_ok (pc' := 174) [(.aload_n 0, 0, 0, 0), (.getfield 65, 10, 12, 2)] _ _ _ _ (by decide +kernel) ?_
      show _ ∧ (∃ _, _ ∧ (_))
      refine ⟨o_r0_10, r0_12, e_r0_12, ?_⟩
      show G Γ m_FB_count (d + 1) (0, 0) Q 174 [.ref r0, .int x1] [.ref r0_12] μ
      refine g_invV (M' := m_Me_valueInAll) (b1 := 0) (b2 := 0) (As := []) (a := r0_12) (st := []) lk_10_437 (by decide +kernel) rfl (dk_Me_valueInAll d) (Nat.le_of_ble_eq_true rfl) (Or.inl ⟨4, o_r0_12_4, rfl⟩) h ?_
      rintro _ μ5 ⟨v5, rfl, h⟩ hn5
      show G Γ m_FB_count (d + 1) (0, 0) Q 177 [.ref r0, .int x1] [.int v5] μ5
      exact g_reti (by decide +kernel) rfl h
    | 13, _, hc =>
      replace h := h.2.2.2.2.2.2.2.2.2.2.2.2.2.1 hc
      refine ⟨178, 177, rfl, by decide, ?_⟩
      show G Γ m_FB_count (d + 1) (0, 0) Q 178 [.ref r0, .int x1] [] μ
      refine run_ok (pc' := 182) [(.aload_n 0, 0, 0, 0), (.getfield 65, 10, 12, 2)] _ _ _ _ (by decide +kernel) ?_
      show _ ∧ (∃ _, _ ∧ (_))
      refine ⟨o_r0_10, r0_12, e_r0_12, ?_⟩
      show G Γ m_FB_count (d + 1) (0, 0) Q 182 [.ref r0, .int x1] [.ref r0_12] μ
      refine g_invV (M' := m_Me_length) (b1 := 0) (b2 := 0) (As := []) (a := r0_12) (st := []) lk_10_297 (by decide +kernel) rfl (dk_Me_length d) (Nat.le_of_ble_eq_true rfl) (Or.inl ⟨4, o_r0_12_4, rfl⟩) h ?_
      rintro _ μ6 ⟨v6, rfl, h⟩ hn6
      show G Γ m_FB_count (d + 1) (0, 0) Q 185 [.ref r0, .int x1] [.int v6] μ6
      exact g_reti (by decide +kernel) rfl h
    | 14, _, hc =>
      replace h := h.2.2.2.2.2.2.2.2.2.2.2.2.2.2 hc
      refine ⟨186, 185, rfl, by decide, ?_⟩
      show G Γ m_FB_count (d + 1) (0, 0) Q 186 [.ref r0, .int x1] [] μ
      refine run_ok (pc' := 193) [(.aload_n 0, 0, 0, 0), (.getfield 58, 10, 11, 2), (.getfield 149, 0, 3, 0)] _ _ _ _ (by decide +kernel) ?_
      show _ ∧ (∃ _, _ ∧ (_ ∧ (_)))
      refine ⟨o_r0_10, r0_11, e_r0_11, o_r0_11_0, ?_⟩
      show G Γ m_FB_count (d + 1) (0, 0) Q 193 [.ref r0, .int x1] [.int (xI μ r0_11 3)] μ
      exact g_reti (by decide +kernel) rfl h
    | k + 15, hk, _ => exact absurd hk (by omega)
/-! FrostBox placeAmong([CI)I -/
set_option maxRecDepth 100000 in
theorem B_FB_placeAmong_0 {Γ : XG} {d : Nat} {Q : Option Value → XM → Prop} {r0 : Nat} {x1 : Int32} {μ : XM}  (h : G Γ m_FB_placeAmong (d + 1) (0, 0) Q 2 [.ref r0, .int x1, .int (w 0)] [] μ) : G Γ m_FB_placeAmong (d + 1) (0, 0) Q 0 [.ref r0, .int x1] [] μ := by
  refine run_ok (pc' := 2) [(.iconst 0, 0, 0, 0), (.istore_n 2, 0, 0, 0)] _ _ _ _ (by decide +kernel) ?_
  show G Γ m_FB_placeAmong (d + 1) (0, 0) Q 2 [.ref r0, .int x1, .int (w 0)] [] μ
  exact h
set_option maxRecDepth 100000 in
theorem B_FB_placeAmong_2 {Γ : XG} {d : Nat} {Q : Option Value → XM → Prop} {r0 : Nat} {x1 x2 : Int32} {μ : XM}  (h : ∃ n1, ar μ r0 3 n1 ∧ ((x2 < w n1 → inb μ 3 r0 x2 ∧ ((xI μ r0 x2.toNatClampNeg = x1 → Q (some (.int x2)) μ) ∧ (¬ xI μ r0 x2.toNatClampNeg = x1 → G Γ m_FB_placeAmong (d + 1) (0, 0) Q 2 [.ref r0, .int x1, .int (x2 + w 1)] [] μ))) ∧ (¬ x2 < w n1 → Q (some (.int (w (-1)))) μ))) : G Γ m_FB_placeAmong (d + 1) (0, 0) Q 2 [.ref r0, .int x1, .int x2] [] μ := by
  obtain ⟨n1, el1, h⟩ := h
  refine run_ok (pc' := 5) [(.iload_n 2, 0, 0, 0), (.aload_n 0, 0, 0, 0), (.arraylength, 3, 0, 0)] _ _ _ _ (by decide +kernel) ?_
  show ∃ _, _ ∧ (_)
  refine ⟨n1, el1, ?_⟩
  show G Γ m_FB_placeAmong (d + 1) (0, 0) Q 5 [.ref r0, .int x1, .int x2] [.int (w n1), .int x2] μ
  refine g_icmp_ge (pc' := 23) (off := 18) (by decide) (by decide +kernel) (fun hc => ?_) (fun hc => ?_)
  · replace h := h.2 hc
    show G Γ m_FB_placeAmong (d + 1) (0, 0) Q 23 [.ref r0, .int x1, .int x2] [] μ
    refine run_ok (pc' := 24) [(.iconst (-1), 0, 0, 0)] _ _ _ _ (by decide +kernel) ?_
    show G Γ m_FB_placeAmong (d + 1) (0, 0) Q 24 [.ref r0, .int x1, .int x2] [.int (w (-1))] μ
    exact g_reti (by decide +kernel) rfl h
  · replace h := h.1 hc
    show G Γ m_FB_placeAmong (d + 1) (0, 0) Q 8 [.ref r0, .int x1, .int x2] [] μ
    obtain ⟨ib2, h⟩ := h
    refine run_ok (pc' := 12) [(.aload_n 0, 0, 0, 0), (.iload_n 2, 0, 0, 0), (.caload, 0, 0, 0), (.iload_n 1, 0, 0, 0)] _ _ _ _ (by decide +kernel) ?_
    show _ ∧ (_)
    refine ⟨ib2, ?_⟩
    show G Γ m_FB_placeAmong (d + 1) (0, 0) Q 12 [.ref r0, .int x1, .int x2] [.int x1, .int (xI μ r0 x2.toNatClampNeg)] μ
    refine g_icmp_ne (pc' := 17) (off := 5) (by decide) (by decide +kernel) (fun hc => ?_) (fun hc => ?_)
    · replace h := h.2 hc
      show G Γ m_FB_placeAmong (d + 1) (0, 0) Q 17 [.ref r0, .int x1, .int x2] [] μ
      refine run_ok (pc' := 2) [(.iinc 2 1, 0, 0, 0), (.goto (-18), 0, 0, 0)] _ _ _ _ (by decide +kernel) ?_
      show G Γ m_FB_placeAmong (d + 1) (0, 0) Q 2 [.ref r0, .int x1, .int (x2 + w 1)] [] μ
      exact h
    · replace h := h.1 hc
      show G Γ m_FB_placeAmong (d + 1) (0, 0) Q 15 [.ref r0, .int x1, .int x2] [] μ
      refine run_ok (pc' := 16) [(.iload_n 2, 0, 0, 0)] _ _ _ _ (by decide +kernel) ?_
      show G Γ m_FB_placeAmong (d + 1) (0, 0) Q 16 [.ref r0, .int x1, .int x2] [.int x2] μ
      exact g_reti (by decide +kernel) rfl h
