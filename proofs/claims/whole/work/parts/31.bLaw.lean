/-! FrostBox$Law readFrom(LFrostBox$Tape;)Z -/
set_option maxRecDepth 100000 in
theorem lk_2_29 : LkV 2 29 m_Ta_rewind 0 := ⟨lc_Ta_rewind, lwG_in (List.mem_of_getElem? (i := 566) rfl) rfl, lwG_in (List.mem_of_getElem? (i := 487) rfl) rfl, lwG_in (List.mem_of_getElem? (i := 488) rfl) rfl⟩
set_option maxRecDepth 100000 in
theorem lk_2_50 : LkV 2 50 m_Ta_refuse 0 := ⟨lc_Ta_refuse, lwG_in (List.mem_of_getElem? (i := 585) rfl) rfl, lwG_in (List.mem_of_getElem? (i := 516) rfl) rfl, lwG_in (List.mem_of_getElem? (i := 517) rfl) rfl⟩
set_option maxRecDepth 100000 in
theorem lk_2_46 : LkV 2 46 m_Ta_demand 1 := ⟨lc_Ta_demand, lwG_in (List.mem_of_getElem? (i := 571) rfl) rfl, lwG_in (List.mem_of_getElem? (i := 557) rfl) rfl, lwG_in (List.mem_of_getElem? (i := 558) rfl) rfl⟩
set_option maxRecDepth 100000 in
theorem lk_2_42 : LkV 2 42 m_Ta_ahead 0 := ⟨lc_Ta_ahead, lwG_in (List.mem_of_getElem? (i := 572) rfl) rfl, lwG_in (List.mem_of_getElem? (i := 495) rfl) rfl, lwG_in (List.mem_of_getElem? (i := 496) rfl) rfl⟩
set_option maxRecDepth 100000 in
theorem lk_2_38 : LkV 2 38 m_La_add 1 := ⟨lc_La_add, lwG_in (List.mem_of_getElem? (i := 588) rfl) rfl, lwG_in (List.mem_of_getElem? (i := 590) rfl) rfl, lwG_in (List.mem_of_getElem? (i := 8) rfl) rfl⟩
set_option maxRecDepth 100000 in
theorem lk_2_34 : LkV 2 34 m_La_readClause 1 := ⟨lc_La_readClause, lwG_in (List.mem_of_getElem? (i := 567) rfl) rfl, lwG_in (List.mem_of_getElem? (i := 569) rfl) rfl, lwG_in (List.mem_of_getElem? (i := 4) rfl) rfl⟩
set_option maxRecDepth 100000 in
theorem B_La_readFrom_0 {Γ : XG} {d : Nat} {Q : Option Value → XM → Prop} {r0 r1 : Nat} {μ : XM} (o_r0_2 : ob μ r0 2) (o_r1_9 : ob μ r1 9) (h : ∀ μ1, μ1 = sI μ r0 3 (w 0) → Call Γ m_Ta_rewind d [.ref r1] μ1 (KV (fun μ2 => G Γ m_La_readFrom (d + 1) (0, 0) Q 11 [.ref r0, .ref r1, .int (w 0)] [] μ2))) : G Γ m_La_readFrom (d + 1) (0, 0) Q 0 [.ref r0, .ref r1] [] μ := by
  refine run_ok (pc' := 5) [(.aload_n 0, 0, 0, 0), (.iconst 0, 0, 0, 0), (.putfield 25, 2, 3, 0)] _ _ _ _ (by decide +kernel) ?_
  show _ ∧ (_)
  refine ⟨o_r0_2, ?_⟩
  show G Γ m_La_readFrom (d + 1) (0, 0) Q 5 [.ref r0, .ref r1] [] (sI μ r0 3 (w 0))
  obtain ⟨μ1, em1⟩ : ∃ m : XM, m = sI μ r0 3 (w 0) := ⟨_, rfl⟩
  replace h := h μ1 em1
  have hm1 : xN μ ≤ xN μ1 := by rw [em1]; exact Nat.le_refl _
  rw [← em1]
  refine run_ok (pc' := 6) [(.aload_n 1, 0, 0, 0)] _ _ _ _ (by decide +kernel) ?_
  show G Γ m_La_readFrom (d + 1) (0, 0) Q 6 [.ref r0, .ref r1] [.ref r1] μ1
  refine g_invV (M' := m_Ta_rewind) (b1 := 0) (b2 := 0) (As := []) (a := r1) (st := []) lk_2_29 (by decide +kernel) rfl (dk_Ta_rewind d) (Nat.le_of_ble_eq_true rfl) (Or.inl ⟨9, ((o_r1_9).mono hm1), rfl⟩) h ?_
  rintro _ μ2 ⟨rfl, h⟩ hn2
  show G Γ m_La_readFrom (d + 1) (0, 0) Q 9 [.ref r0, .ref r1] [] μ2
  refine run_ok (pc' := 11) [(.iconst 0, 0, 0, 0), (.istore_n 2, 0, 0, 0)] _ _ _ _ (by decide +kernel) ?_
  show G Γ m_La_readFrom (d + 1) (0, 0) Q 11 [.ref r0, .ref r1, .int (w 0)] [] μ2
  exact h
set_option maxRecDepth 100000 in
theorem B_La_readFrom_11 {Γ : XG} {d : Nat} {Q : Option Value → XM → Prop} {r0 r1 : Nat} {x2 : Int32} {μ : XM} (o_r1_9 : ob μ r1 9) (o_r0_2 : ob μ r0 2) (h : ((w 240 < x2 → Call Γ m_Ta_refuse d [.ref r1] μ (KI (fun v1 μ1 => ((v1 = w 0 ∨ v1 = w 1) ∧ Q (some (.int v1)) μ1)))) ∧ (¬ w 240 < x2 → Call Γ m_La_readClause d [.ref r0, .ref r1] μ (KI (fun v2 μ2 => ((v2 = w 0 → Q (some (.int (w 0))) μ2) ∧ (¬ v2 = w 0 → Call Γ m_La_add d [.ref r0, .int (w 20059)] μ2 (KV (fun μ3 => Call Γ m_Ta_ahead d [.ref r1] μ3 (KI (fun v4 μ4 => ((v4 = w (-1) → Q (some (.int (w 1))) μ4) ∧ (¬ v4 = w (-1) → Call Γ m_Ta_demand d [.ref r1, .int (w 59)] μ4 (KI (fun v5 μ5 => ((v5 = w 0 → Q (some (.int (w 0))) μ5) ∧ (¬ v5 = w 0 → G Γ m_La_readFrom (d + 1) (0, 0) Q 11 [.ref r0, .ref r1, .int (x2 + w 1)] [] μ5))))))))))))))))) : G Γ m_La_readFrom (d + 1) (0, 0) Q 11 [.ref r0, .ref r1, .int x2] [] μ := by
  refine run_ok (pc' := 15) [(.iload_n 2, 0, 0, 0), (.sipush 240, 0, 0, 0)] _ _ _ _ (by decide +kernel) ?_
  show G Γ m_La_readFrom (d + 1) (0, 0) Q 15 [.ref r0, .ref r1, .int x2] [.int (w 240), .int x2] μ
  refine g_icmp_gt (pc' := 62) (off := 47) (by decide) (by decide +kernel) (fun hc => ?_) (fun hc => ?_)
  · replace h := h.1 hc
    show G Γ m_La_readFrom (d + 1) (0, 0) Q 62 [.ref r0, .ref r1, .int x2] [] μ
    refine run_ok (pc' := 63) [(.aload_n 1, 0, 0, 0)] _ _ _ _ (by decide +kernel) ?_
    show G Γ m_La_readFrom (d + 1) (0, 0) Q 63 [.ref r0, .ref r1, .int x2] [.ref r1] μ
    refine g_invV (M' := m_Ta_refuse) (b1 := 0) (b2 := 0) (As := []) (a := r1) (st := []) lk_2_50 (by decide +kernel) rfl (dk_Ta_refuse d) (Nat.le_of_ble_eq_true rfl) (Or.inl ⟨9, o_r1_9, rfl⟩) h ?_
    rintro _ μ1 ⟨v1, rfl, h⟩ hn1
    show G Γ m_La_readFrom (d + 1) (0, 0) Q 66 [.ref r0, .ref r1, .int x2] [.int v1] μ1
    exact g_retz (by decide +kernel) rfl h.1 h.2
  · replace h := h.2 hc
    show G Γ m_La_readFrom (d + 1) (0, 0) Q 18 [.ref r0, .ref r1, .int x2] [] μ
    refine run_ok (pc' := 20) [(.aload_n 0, 0, 0, 0), (.aload_n 1, 0, 0, 0)] _ _ _ _ (by decide +kernel) ?_
    show G Γ m_La_readFrom (d + 1) (0, 0) Q 20 [.ref r0, .ref r1, .int x2] [.ref r1, .ref r0] μ
    refine g_invV (M' := m_La_readClause) (b1 := 0) (b2 := 0) (As := [.ref r1]) (a := r0) (st := []) lk_2_34 (by decide +kernel) rfl (dk_La_readClause d) (Nat.le_of_ble_eq_true rfl) (Or.inl ⟨2, o_r0_2, rfl⟩) h ?_
    rintro _ μ2 ⟨v2, rfl, h⟩ hn2
    show G Γ m_La_readFrom (d + 1) (0, 0) Q 23 [.ref r0, .ref r1, .int x2] [.int v2] μ2
    refine g_ifz_ne (pc' := 28) (off := 5) (by decide) (by decide +kernel) (fun hc => ?_) (fun hc => ?_)
    · replace h := h.2 hc
      show G Γ m_La_readFrom (d + 1) (0, 0) Q 28 [.ref r0, .ref r1, .int x2] [] μ2
      refine run_ok (pc' := 32) [(.aload_n 0, 0, 0, 0), (.sipush 20059, 0, 0, 0)] _ _ _ _ (by decide +kernel) ?_
      show G Γ m_La_readFrom (d + 1) (0, 0) Q 32 [.ref r0, .ref r1, .int x2] [.int (w 20059), .ref r0] μ2
      refine g_invV (M' := m_La_add) (b1 := 0) (b2 := 0) (As := [.int (w 20059)]) (a := r0) (st := []) lk_2_38 (by decide +kernel) rfl (dk_La_add d) (Nat.le_of_ble_eq_true rfl) (Or.inl ⟨2, ((o_r0_2).mono hn2), rfl⟩) h ?_
      rintro _ μ3 ⟨rfl, h⟩ hn3
      show G Γ m_La_readFrom (d + 1) (0, 0) Q 35 [.ref r0, .ref r1, .int x2] [] μ3
      refine run_ok (pc' := 36) [(.aload_n 1, 0, 0, 0)] _ _ _ _ (by decide +kernel) ?_
      show G Γ m_La_readFrom (d + 1) (0, 0) Q 36 [.ref r0, .ref r1, .int x2] [.ref r1] μ3
      refine g_invV (M' := m_Ta_ahead) (b1 := 0) (b2 := 0) (As := []) (a := r1) (st := []) lk_2_42 (by decide +kernel) rfl (dk_Ta_ahead d) (Nat.le_of_ble_eq_true rfl) (Or.inl ⟨9, (((o_r1_9).mono hn2).mono hn3), rfl⟩) h ?_
      rintro _ μ4 ⟨v4, rfl, h⟩ hn4
      show G Γ m_La_readFrom (d + 1) (0, 0) Q 39 [.ref r0, .ref r1, .int x2] [.int v4] μ4
      refine run_ok (pc' := 40) [(.iconst (-1), 0, 0, 0)] _ _ _ _ (by decide +kernel) ?_
      show G Γ m_La_readFrom (d + 1) (0, 0) Q 40 [.ref r0, .ref r1, .int x2] [.int (w (-1)), .int v4] μ4
      refine g_icmp_ne (pc' := 45) (off := 5) (by decide) (by decide +kernel) (fun hc => ?_) (fun hc => ?_)
      · replace h := h.2 hc
        show G Γ m_La_readFrom (d + 1) (0, 0) Q 45 [.ref r0, .ref r1, .int x2] [] μ4
        refine run_ok (pc' := 48) [(.aload_n 1, 0, 0, 0), (.bipush 59, 0, 0, 0)] _ _ _ _ (by decide +kernel) ?_
        show G Γ m_La_readFrom (d + 1) (0, 0) Q 48 [.ref r0, .ref r1, .int x2] [.int (w 59), .ref r1] μ4
        refine g_invV (M' := m_Ta_demand) (b1 := 0) (b2 := 0) (As := [.int (w 59)]) (a := r1) (st := []) lk_2_46 (by decide +kernel) rfl (dk_Ta_demand d) (Nat.le_of_ble_eq_true rfl) (Or.inl ⟨9, ((((o_r1_9).mono hn2).mono hn3).mono hn4), rfl⟩) h ?_
        rintro _ μ5 ⟨v5, rfl, h⟩ hn5
        show G Γ m_La_readFrom (d + 1) (0, 0) Q 51 [.ref r0, .ref r1, .int x2] [.int v5] μ5
        refine g_ifz_ne (pc' := 56) (off := 5) (by decide) (by decide +kernel) (fun hc => ?_) (fun hc => ?_)
        · replace h := h.2 hc
          show G Γ m_La_readFrom (d + 1) (0, 0) Q 56 [.ref r0, .ref r1, .int x2] [] μ5
          refine run_ok (pc' := 11) [(.iinc 2 1, 0, 0, 0), (.goto (-48), 0, 0, 0)] _ _ _ _ (by decide +kernel) ?_
          show G Γ m_La_readFrom (d + 1) (0, 0) Q 11 [.ref r0, .ref r1, .int (x2 + w 1)] [] μ5
          exact h
        · replace h := h.1 hc
          show G Γ m_La_readFrom (d + 1) (0, 0) Q 54 [.ref r0, .ref r1, .int x2] [] μ5
          refine run_ok (pc' := 55) [(.iconst 0, 0, 0, 0)] _ _ _ _ (by decide +kernel) ?_
          show G Γ m_La_readFrom (d + 1) (0, 0) Q 55 [.ref r0, .ref r1, .int x2] [.int (w 0)] μ5
          exact g_retz (by decide +kernel) rfl (Or.inl rfl) h
      · replace h := h.1 hc
        show G Γ m_La_readFrom (d + 1) (0, 0) Q 43 [.ref r0, .ref r1, .int x2] [] μ4
        refine run_ok (pc' := 44) [(.iconst 1, 0, 0, 0)] _ _ _ _ (by decide +kernel) ?_
        show G Γ m_La_readFrom (d + 1) (0, 0) Q 44 [.ref r0, .ref r1, .int x2] [.int (w 1)] μ4
        exact g_retz (by decide +kernel) rfl (Or.inr rfl) h
    · replace h := h.1 hc
      show G Γ m_La_readFrom (d + 1) (0, 0) Q 26 [.ref r0, .ref r1, .int x2] [] μ2
      refine run_ok (pc' := 27) [(.iconst 0, 0, 0, 0)] _ _ _ _ (by decide +kernel) ?_
      show G Γ m_La_readFrom (d + 1) (0, 0) Q 27 [.ref r0, .ref r1, .int x2] [.int (w 0)] μ2
      exact g_retz (by decide +kernel) rfl (Or.inl rfl) h
/-! FrostBox$Law add(I)V -/
set_option maxRecDepth 100000 in
theorem B_La_add_0 {Γ : XG} {d : Nat} {Q : Option Value → XM → Prop} {r0 r0_0 : Nat} {x1 : Int32} {μ : XM} (o_r0_2 : ob μ r0 2) (e_r0_0 : xR μ r0 0 = some r0_0) (h : ∃ n1, ar μ r0_0 0 n1 ∧ ((xI μ r0 3 < w n1 → inS μ 0 r0_0 (xI μ r0 3) ∧ ∀ μ3, μ3 = sI μ r0_0 (xI μ r0 3).toNatClampNeg x1 → ∀ μ4, μ4 = sI μ3 r0 3 ((xI μ3 r0 3) + (w 1)) → Q none μ4) ∧ (¬ xI μ r0 3 < w n1 → Q none μ))) : G Γ m_La_add (d + 1) (0, 0) Q 0 [.ref r0, .int x1] [] μ := by
  obtain ⟨n1, el1, h⟩ := h
  refine run_ok (pc' := 9) [(.aload_n 0, 0, 0, 0), (.getfield 25, 2, 3, 0), (.aload_n 0, 0, 0, 0), (.getfield 9, 2, 0, 2), (.arraylength, 0, 0, 0)] _ _ _ _ (by decide +kernel) ?_
  show _ ∧ (_ ∧ (∃ _, _ ∧ (∃ _, _ ∧ (_))))
  refine ⟨o_r0_2, o_r0_2, r0_0, e_r0_0, n1, el1, ?_⟩
  show G Γ m_La_add (d + 1) (0, 0) Q 9 [.ref r0, .int x1] [.int (w n1), .int (xI μ r0 3)] μ
  refine g_icmp_ge (pc' := 32) (off := 23) (by decide) (by decide +kernel) (fun hc => ?_) (fun hc => ?_)
  · replace h := h.2 hc
    show G Γ m_La_add (d + 1) (0, 0) Q 32 [.ref r0, .int x1] [] μ
    exact g_retv (by decide +kernel) rfl h
  · replace h := h.1 hc
    show G Γ m_La_add (d + 1) (0, 0) Q 12 [.ref r0, .int x1] [] μ
    obtain ⟨is2, h⟩ := h
    refine run_ok (pc' := 22) [(.aload_n 0, 0, 0, 0), (.getfield 9, 2, 0, 2), (.aload_n 0, 0, 0, 0), (.getfield 25, 2, 3, 0), (.iload_n 1, 0, 0, 0), (.iastore, 0, 0, 0)] _ _ _ _ (by decide +kernel) ?_
    show _ ∧ (∃ _, _ ∧ (_ ∧ (_ ∧ (_))))
    refine ⟨o_r0_2, r0_0, e_r0_0, o_r0_2, is2, ?_⟩
    show G Γ m_La_add (d + 1) (0, 0) Q 22 [.ref r0, .int x1] [] (sI μ r0_0 (xI μ r0 3).toNatClampNeg x1)
    obtain ⟨μ3, em3⟩ : ∃ m : XM, m = sI μ r0_0 (xI μ r0 3).toNatClampNeg x1 := ⟨_, rfl⟩
    replace h := h μ3 em3
    have hm3 : xN μ ≤ xN μ3 := by rw [em3]; exact Nat.le_refl _
    rw [← em3]
    refine run_ok (pc' := 32) [(.aload_n 0, 0, 0, 0), (.dup, 0, 0, 0), (.getfield 25, 2, 3, 0), (.iconst 1, 0, 0, 0), (.iadd, 0, 0, 0), (.putfield 25, 2, 3, 0)] _ _ _ _ (by decide +kernel) ?_
    show _ ∧ (_ ∧ (_))
    refine ⟨((o_r0_2).mono hm3), ((o_r0_2).mono hm3), ?_⟩
    show G Γ m_La_add (d + 1) (0, 0) Q 32 [.ref r0, .int x1] [] (sI μ3 r0 3 ((xI μ3 r0 3) + (w 1)))
    obtain ⟨μ4, em4⟩ : ∃ m : XM, m = sI μ3 r0 3 ((xI μ3 r0 3) + (w 1)) := ⟨_, rfl⟩
    replace h := h μ4 em4
    have hm4 : xN μ3 ≤ xN μ4 := by rw [em4]; exact Nat.le_refl _
    rw [← em4]
    exact g_retv (by decide +kernel) rfl h
/-! FrostBox$Law readClause(LFrostBox$Tape;)Z -/
set_option maxRecDepth 100000 in
theorem lk_2_57 : LkV 2 57 m_La_readSum 2 := ⟨lc_La_readSum, lwG_in (List.mem_of_getElem? (i := 573) rfl) rfl, lwG_in (List.mem_of_getElem? (i := 575) rfl) rfl, lwG_in (List.mem_of_getElem? (i := 5) rfl) rfl⟩
set_option maxRecDepth 100000 in
theorem lk_2_64 : LkV 2 64 m_La_readCondition 2 := ⟨lc_La_readCondition, lwG_in (List.mem_of_getElem? (i := 596) rfl) rfl, lwG_in (List.mem_of_getElem? (i := 598) rfl) rfl, lwG_in (List.mem_of_getElem? (i := 9) rfl) rfl⟩
set_option maxRecDepth 100000 in
theorem lk_2_61 : LkS 2 61 m_La_isComparison 1 := ⟨lc_La_isComparison, lwG_in (List.mem_of_getElem? (i := 593) rfl) rfl, lwG_in (List.mem_of_getElem? (i := 594) rfl) rfl⟩
set_option maxRecDepth 100000 in
theorem B_La_readClause_0 {Γ : XG} {d : Nat} {Q : Option Value → XM → Prop} {r0 r1 : Nat} {μ : XM} (o_r1_9 : ob μ r1 9) (o_r0_2 : ob μ r0 2) (h : Call Γ m_Ta_demand d [.ref r1, .int (w 121)] μ (KI (fun v1 μ1 => ((v1 = w 0 → Q (some (.int (w 0))) μ1) ∧ (¬ v1 = w 0 → Call Γ m_Ta_demand d [.ref r1, .int (w 58)] μ1 (KI (fun v2 μ2 => ((v2 = w 0 → Q (some (.int (w 0))) μ2) ∧ (¬ v2 = w 0 → Call Γ m_Ta_ahead d [.ref r1] μ2 (KI (fun v3 μ3 => ((v3 = w 33 → Call Γ m_La_readCondition d [.ref r0, .ref r1, .int (w 0)] μ3 (KI (fun v4 μ4 => ((v4 = w 0 → Q (some (.int (w 0))) μ4) ∧ (¬ v4 = w 0 → Call Γ m_Ta_demand d [.ref r1, .int (w 63)] μ4 (KI (fun v5 μ5 => ((v5 = w 0 → Q (some (.int (w 0))) μ5) ∧ (¬ v5 = w 0 → Call Γ m_La_add d [.ref r0, .int (w 20063)] μ5 (KV (fun μ6 => Call Γ m_La_readSum d [.ref r0, .ref r1, .int (w 0)] μ6 (KI (fun v7 μ7 => ((v7 = w 0 ∨ v7 = w 1) ∧ Q (some (.int v7)) μ7)))))))))))))) ∧ (¬ v3 = w 33 → ((v3 = w 40 → Call Γ m_La_readCondition d [.ref r0, .ref r1, .int (w 0)] μ3 (KI (fun v8 μ8 => ((v8 = w 0 → Q (some (.int (w 0))) μ8) ∧ (¬ v8 = w 0 → Call Γ m_Ta_demand d [.ref r1, .int (w 63)] μ8 (KI (fun v9 μ9 => ((v9 = w 0 → Q (some (.int (w 0))) μ9) ∧ (¬ v9 = w 0 → Call Γ m_La_add d [.ref r0, .int (w 20063)] μ9 (KV (fun μ10 => Call Γ m_La_readSum d [.ref r0, .ref r1, .int (w 0)] μ10 (KI (fun v11 μ11 => ((v11 = w 0 ∨ v11 = w 1) ∧ Q (some (.int v11)) μ11)))))))))))))) ∧ (¬ v3 = w 40 → Call Γ m_La_readSum d [.ref r0, .ref r1, .int (w 0)] μ3 (KI (fun v12 μ12 => ((v12 = w 0 → Q (some (.int (w 0))) μ12) ∧ (¬ v12 = w 0 → Call Γ m_Ta_ahead d [.ref r1] μ12 (KI (fun v13 μ13 => Call Γ m_La_isComparison d [.int v13] μ13 (KI (fun v14 μ14 => ((v14 = w 0 → Q (some (.int (w 1))) μ14) ∧ (¬ v14 = w 0 → ∀ μ15, μ15 = sI μ14 r1 2 (xI μ3 r1 2) → ∀ μ16, μ16 = sI μ15 r0 3 (xI μ3 r0 3) → Call Γ m_La_readCondition d [.ref r0, .ref r1, .int (w 0)] μ16 (KI (fun v17 μ17 => ((v17 = w 0 → Q (some (.int (w 0))) μ17) ∧ (¬ v17 = w 0 → Call Γ m_Ta_demand d [.ref r1, .int (w 63)] μ17 (KI (fun v18 μ18 => ((v18 = w 0 → Q (some (.int (w 0))) μ18) ∧ (¬ v18 = w 0 → Call Γ m_La_add d [.ref r0, .int (w 20063)] μ18 (KV (fun μ19 => Call Γ m_La_readSum d [.ref r0, .ref r1, .int (w 0)] μ19 (KI (fun v20 μ20 => ((v20 = w 0 ∨ v20 = w 1) ∧ Q (some (.int v20)) μ20)))))))))))))))))))))))))))))))))))))) : G Γ m_La_readClause (d + 1) (0, 0) Q 0 [.ref r0, .ref r1] [] μ := by
  refine run_ok (pc' := 3) [(.aload_n 1, 0, 0, 0), (.bipush 121, 0, 0, 0)] _ _ _ _ (by decide +kernel) ?_
  show G Γ m_La_readClause (d + 1) (0, 0) Q 3 [.ref r0, .ref r1] [.int (w 121), .ref r1] μ
  refine g_invV (M' := m_Ta_demand) (b1 := 0) (b2 := 0) (As := [.int (w 121)]) (a := r1) (st := []) lk_2_46 (by decide +kernel) rfl (dk_Ta_demand d) (Nat.le_of_ble_eq_true rfl) (Or.inl ⟨9, o_r1_9, rfl⟩) h ?_
  rintro _ μ1 ⟨v1, rfl, h⟩ hn1
  show G Γ m_La_readClause (d + 1) (0, 0) Q 6 [.ref r0, .ref r1] [.int v1] μ1
  refine g_ifz_eq (pc' := 18) (off := 12) (by decide) (by decide +kernel) (fun hc => ?_) (fun hc => ?_)
  · replace h := h.1 hc
    show G Γ m_La_readClause (d + 1) (0, 0) Q 18 [.ref r0, .ref r1] [] μ1
    refine run_ok (pc' := 19) [(.iconst 0, 0, 0, 0)] _ _ _ _ (by decide +kernel) ?_
    show G Γ m_La_readClause (d + 1) (0, 0) Q 19 [.ref r0, .ref r1] [.int (w 0)] μ1
    exact g_retz (by decide +kernel) rfl (Or.inl rfl) h
  · replace h := h.2 hc
    show G Γ m_La_readClause (d + 1) (0, 0) Q 9 [.ref r0, .ref r1] [] μ1
    refine run_ok (pc' := 12) [(.aload_n 1, 0, 0, 0), (.bipush 58, 0, 0, 0)] _ _ _ _ (by decide +kernel) ?_
    show G Γ m_La_readClause (d + 1) (0, 0) Q 12 [.ref r0, .ref r1] [.int (w 58), .ref r1] μ1
    refine g_invV (M' := m_Ta_demand) (b1 := 0) (b2 := 0) (As := [.int (w 58)]) (a := r1) (st := []) lk_2_46 (by decide +kernel) rfl (dk_Ta_demand d) (Nat.le_of_ble_eq_true rfl) (Or.inl ⟨9, ((o_r1_9).mono hn1), rfl⟩) h ?_
    rintro _ μ2 ⟨v2, rfl, h⟩ hn2
    show G Γ m_La_readClause (d + 1) (0, 0) Q 15 [.ref r0, .ref r1] [.int v2] μ2
    refine g_ifz_ne (pc' := 20) (off := 5) (by decide) (by decide +kernel) (fun hc => ?_) (fun hc => ?_)
    · replace h := h.2 hc
      show G Γ m_La_readClause (d + 1) (0, 0) Q 20 [.ref r0, .ref r1] [] μ2
      refine run_ok (pc' := 21) [(.aload_n 1, 0, 0, 0)] _ _ _ _ (by decide +kernel) ?_
      show G Γ m_La_readClause (d + 1) (0, 0) Q 21 [.ref r0, .ref r1] [.ref r1] μ2
      refine g_invV (M' := m_Ta_ahead) (b1 := 0) (b2 := 0) (As := []) (a := r1) (st := []) lk_2_42 (by decide +kernel) rfl (dk_Ta_ahead d) (Nat.le_of_ble_eq_true rfl) (Or.inl ⟨9, (((o_r1_9).mono hn1).mono hn2), rfl⟩) h ?_
      rintro _ μ3 ⟨v3, rfl, h⟩ hn3
      show G Γ m_La_readClause (d + 1) (0, 0) Q 24 [.ref r0, .ref r1] [.int v3] μ3
      refine run_ok (pc' := 28) [(.istore_n 2, 0, 0, 0), (.iload_n 2, 0, 0, 0), (.bipush 33, 0, 0, 0)] _ _ _ _ (by decide +kernel) ?_
      show G Γ m_La_readClause (d + 1) (0, 0) Q 28 [.ref r0, .ref r1, .int v3] [.int (w 33), .int v3] μ3
      refine g_icmp_eq (pc' := 82) (off := 54) (by decide) (by decide +kernel) (fun hc => ?_) (fun hc => ?_)
      · replace h := h.1 hc
        show G Γ m_La_readClause (d + 1) (0, 0) Q 82 [.ref r0, .ref r1, .int v3] [] μ3
        refine run_ok (pc' := 85) [(.aload_n 0, 0, 0, 0), (.aload_n 1, 0, 0, 0), (.iconst 0, 0, 0, 0)] _ _ _ _ (by decide +kernel) ?_
        show G Γ m_La_readClause (d + 1) (0, 0) Q 85 [.ref r0, .ref r1, .int v3] [.int (w 0), .ref r1, .ref r0] μ3
        refine g_invV (M' := m_La_readCondition) (b1 := 0) (b2 := 0) (As := [.ref r1, .int (w 0)]) (a := r0) (st := []) lk_2_64 (by decide +kernel) rfl (dk_La_readCondition d) (Nat.le_of_ble_eq_true rfl) (Or.inl ⟨2, ((((o_r0_2).mono hn1).mono hn2).mono hn3), rfl⟩) h ?_
        rintro _ μ4 ⟨v4, rfl, h⟩ hn4
        show G Γ m_La_readClause (d + 1) (0, 0) Q 88 [.ref r0, .ref r1, .int v3] [.int v4] μ4
        refine g_ifz_eq (pc' := 100) (off := 12) (by decide) (by decide +kernel) (fun hc => ?_) (fun hc => ?_)
        · replace h := h.1 hc
          show G Γ m_La_readClause (d + 1) (0, 0) Q 100 [.ref r0, .ref r1, .int v3] [] μ4
          refine run_ok (pc' := 101) [(.iconst 0, 0, 0, 0)] _ _ _ _ (by decide +kernel) ?_
          show G Γ m_La_readClause (d + 1) (0, 0) Q 101 [.ref r0, .ref r1, .int v3] [.int (w 0)] μ4
          exact g_retz (by decide +kernel) rfl (Or.inl rfl) h
        · replace h := h.2 hc
          show G Γ m_La_readClause (d + 1) (0, 0) Q 91 [.ref r0, .ref r1, .int v3] [] μ4
          refine run_ok (pc' := 94) [(.aload_n 1, 0, 0, 0), (.bipush 63, 0, 0, 0)] _ _ _ _ (by decide +kernel) ?_
          show G Γ m_La_readClause (d + 1) (0, 0) Q 94 [.ref r0, .ref r1, .int v3] [.int (w 63), .ref r1] μ4
          refine g_invV (M' := m_Ta_demand) (b1 := 0) (b2 := 0) (As := [.int (w 63)]) (a := r1) (st := []) lk_2_46 (by decide +kernel) rfl (dk_Ta_demand d) (Nat.le_of_ble_eq_true rfl) (Or.inl ⟨9, (((((o_r1_9).mono hn1).mono hn2).mono hn3).mono hn4), rfl⟩) h ?_
          rintro _ μ5 ⟨v5, rfl, h⟩ hn5
          show G Γ m_La_readClause (d + 1) (0, 0) Q 97 [.ref r0, .ref r1, .int v3] [.int v5] μ5
          refine g_ifz_ne (pc' := 102) (off := 5) (by decide) (by decide +kernel) (fun hc => ?_) (fun hc => ?_)
          · replace h := h.2 hc
            show G Γ m_La_readClause (d + 1) (0, 0) Q 102 [.ref r0, .ref r1, .int v3] [] μ5
            refine run_ok (pc' := 106) [(.aload_n 0, 0, 0, 0), (.sipush 20063, 0, 0, 0)] _ _ _ _ (by decide +kernel) ?_
            show G Γ m_La_readClause (d + 1) (0, 0) Q 106 [.ref r0, .ref r1, .int v3] [.int (w 20063), .ref r0] μ5
            refine g_invV (M' := m_La_add) (b1 := 0) (b2 := 0) (As := [.int (w 20063)]) (a := r0) (st := []) lk_2_38 (by decide +kernel) rfl (dk_La_add d) (Nat.le_of_ble_eq_true rfl) (Or.inl ⟨2, ((((((o_r0_2).mono hn1).mono hn2).mono hn3).mono hn4).mono hn5), rfl⟩) h ?_
            rintro _ μ6 ⟨rfl, h⟩ hn6
            show G Γ m_La_readClause (d + 1) (0, 0) Q 109 [.ref r0, .ref r1, .int v3] [] μ6
            refine run_ok (pc' := 112) [(.aload_n 0, 0, 0, 0), (.aload_n 1, 0, 0, 0), (.iconst 0, 0, 0, 0)] _ _ _ _ (by decide +kernel) ?_
            show G Γ m_La_readClause (d + 1) (0, 0) Q 112 [.ref r0, .ref r1, .int v3] [.int (w 0), .ref r1, .ref r0] μ6
            refine g_invV (M' := m_La_readSum) (b1 := 0) (b2 := 0) (As := [.ref r1, .int (w 0)]) (a := r0) (st := []) lk_2_57 (by decide +kernel) rfl (dk_La_readSum d) (Nat.le_of_ble_eq_true rfl) (Or.inl ⟨2, (((((((o_r0_2).mono hn1).mono hn2).mono hn3).mono hn4).mono hn5).mono hn6), rfl⟩) h ?_
            rintro _ μ7 ⟨v7, rfl, h⟩ hn7
            show G Γ m_La_readClause (d + 1) (0, 0) Q 115 [.ref r0, .ref r1, .int v3] [.int v7] μ7
            exact g_retz (by decide +kernel) rfl h.1 h.2
          · replace h := h.1 hc
            show G Γ m_La_readClause (d + 1) (0, 0) Q 100 [.ref r0, .ref r1, .int v3] [] μ5
            refine run_ok (pc' := 101) [(.iconst 0, 0, 0, 0)] _ _ _ _ (by decide +kernel) ?_
            show G Γ m_La_readClause (d + 1) (0, 0) Q 101 [.ref r0, .ref r1, .int v3] [.int (w 0)] μ5
            exact g_retz (by decide +kernel) rfl (Or.inl rfl) h
      · replace h := h.2 hc
        show G Γ m_La_readClause (d + 1) (0, 0) Q 31 [.ref r0, .ref r1, .int v3] [] μ3
        refine run_ok (pc' := 34) [(.iload_n 2, 0, 0, 0), (.bipush 40, 0, 0, 0)] _ _ _ _ (by decide +kernel) ?_
        show G Γ m_La_readClause (d + 1) (0, 0) Q 34 [.ref r0, .ref r1, .int v3] [.int (w 40), .int v3] μ3
        refine g_icmp_eq (pc' := 82) (off := 48) (by decide) (by decide +kernel) (fun hc => ?_) (fun hc => ?_)
        · replace h := h.1 hc
          show G Γ m_La_readClause (d + 1) (0, 0) Q 82 [.ref r0, .ref r1, .int v3] [] μ3
          refine run_ok (pc' := 85) [(.aload_n 0, 0, 0, 0), (.aload_n 1, 0, 0, 0), (.iconst 0, 0, 0, 0)] _ _ _ _ (by decide +kernel) ?_
          show G Γ m_La_readClause (d + 1) (0, 0) Q 85 [.ref r0, .ref r1, .int v3] [.int (w 0), .ref r1, .ref r0] μ3
          refine g_invV (M' := m_La_readCondition) (b1 := 0) (b2 := 0) (As := [.ref r1, .int (w 0)]) (a := r0) (st := []) lk_2_64 (by decide +kernel) rfl (dk_La_readCondition d) (Nat.le_of_ble_eq_true rfl) (Or.inl ⟨2, ((((o_r0_2).mono hn1).mono hn2).mono hn3), rfl⟩) h ?_
          rintro _ μ8 ⟨v8, rfl, h⟩ hn8
          show G Γ m_La_readClause (d + 1) (0, 0) Q 88 [.ref r0, .ref r1, .int v3] [.int v8] μ8
          refine g_ifz_eq (pc' := 100) (off := 12) (by decide) (by decide +kernel) (fun hc => ?_) (fun hc => ?_)
          · replace h := h.1 hc
            show G Γ m_La_readClause (d + 1) (0, 0) Q 100 [.ref r0, .ref r1, .int v3] [] μ8
            refine run_ok (pc' := 101) [(.iconst 0, 0, 0, 0)] _ _ _ _ (by decide +kernel) ?_
            show G Γ m_La_readClause (d + 1) (0, 0) Q 101 [.ref r0, .ref r1, .int v3] [.int (w 0)] μ8
            exact g_retz (by decide +kernel) rfl (Or.inl rfl) h
          · replace h := h.2 hc
            show G Γ m_La_readClause (d + 1) (0, 0) Q 91 [.ref r0, .ref r1, .int v3] [] μ8
            refine run_ok (pc' := 94) [(.aload_n 1, 0, 0, 0), (.bipush 63, 0, 0, 0)] _ _ _ _ (by decide +kernel) ?_
            show G Γ m_La_readClause (d + 1) (0, 0) Q 94 [.ref r0, .ref r1, .int v3] [.int (w 63), .ref r1] μ8
            refine g_invV (M' := m_Ta_demand) (b1 := 0) (b2 := 0) (As := [.int (w 63)]) (a := r1) (st := []) lk_2_46 (by decide +kernel) rfl (dk_Ta_demand d) (Nat.le_of_ble_eq_true rfl) (Or.inl ⟨9, (((((o_r1_9).mono hn1).mono hn2).mono hn3).mono hn8), rfl⟩) h ?_
            rintro _ μ9 ⟨v9, rfl, h⟩ hn9
            show G Γ m_La_readClause (d + 1) (0, 0) Q 97 [.ref r0, .ref r1, .int v3] [.int v9] μ9
            refine g_ifz_ne (pc' := 102) (off := 5) (by decide) (by decide +kernel) (fun hc => ?_) (fun hc => ?_)
            · replace h := h.2 hc
              show G Γ m_La_readClause (d + 1) (0, 0) Q 102 [.ref r0, .ref r1, .int v3] [] μ9
              refine run_ok (pc' := 106) [(.aload_n 0, 0, 0, 0), (.sipush 20063, 0, 0, 0)] _ _ _ _ (by decide +kernel) ?_
              show G Γ m_La_readClause (d + 1) (0, 0) Q 106 [.ref r0, .ref r1, .int v3] [.int (w 20063), .ref r0] μ9
              refine g_invV (M' := m_La_add) (b1 := 0) (b2 := 0) (As := [.int (w 20063)]) (a := r0) (st := []) lk_2_38 (by decide +kernel) rfl (dk_La_add d) (Nat.le_of_ble_eq_true rfl) (Or.inl ⟨2, ((((((o_r0_2).mono hn1).mono hn2).mono hn3).mono hn8).mono hn9), rfl⟩) h ?_
              rintro _ μ10 ⟨rfl, h⟩ hn10
              show G Γ m_La_readClause (d + 1) (0, 0) Q 109 [.ref r0, .ref r1, .int v3] [] μ10
              refine run_ok (pc' := 112) [(.aload_n 0, 0, 0, 0), (.aload_n 1, 0, 0, 0), (.iconst 0, 0, 0, 0)] _ _ _ _ (by decide +kernel) ?_
              show G Γ m_La_readClause (d + 1) (0, 0) Q 112 [.ref r0, .ref r1, .int v3] [.int (w 0), .ref r1, .ref r0] μ10
              refine g_invV (M' := m_La_readSum) (b1 := 0) (b2 := 0) (As := [.ref r1, .int (w 0)]) (a := r0) (st := []) lk_2_57 (by decide +kernel) rfl (dk_La_readSum d) (Nat.le_of_ble_eq_true rfl) (Or.inl ⟨2, (((((((o_r0_2).mono hn1).mono hn2).mono hn3).mono hn8).mono hn9).mono hn10), rfl⟩) h ?_
              rintro _ μ11 ⟨v11, rfl, h⟩ hn11
              show G Γ m_La_readClause (d + 1) (0, 0) Q 115 [.ref r0, .ref r1, .int v3] [.int v11] μ11
              exact g_retz (by decide +kernel) rfl h.1 h.2
            · replace h := h.1 hc
              show G Γ m_La_readClause (d + 1) (0, 0) Q 100 [.ref r0, .ref r1, .int v3] [] μ9
              refine run_ok (pc' := 101) [(.iconst 0, 0, 0, 0)] _ _ _ _ (by decide +kernel) ?_
              show G Γ m_La_readClause (d + 1) (0, 0) Q 101 [.ref r0, .ref r1, .int v3] [.int (w 0)] μ9
              exact g_retz (by decide +kernel) rfl (Or.inl rfl) h
        · replace h := h.2 hc
          show G Γ m_La_readClause (d + 1) (0, 0) Q 37 [.ref r0, .ref r1, .int v3] [] μ3
          refine run_ok (pc' := 51) [(.aload_n 1, 0, 0, 0), (.getfield 54, 9, 2, 0), (.istore_n 3, 0, 0, 0), (.aload_n 0, 0, 0, 0), (.getfield 25, 2, 3, 0), (.istore 4, 0, 0, 0), (.aload_n 0, 0, 0, 0), (.aload_n 1, 0, 0, 0), (.iconst 0, 0, 0, 0)] _ _ _ _ (by decide +kernel) ?_
          show _ ∧ (_ ∧ (_))
          refine ⟨((((o_r1_9).mono hn1).mono hn2).mono hn3), ((((o_r0_2).mono hn1).mono hn2).mono hn3), ?_⟩
          show G Γ m_La_readClause (d + 1) (0, 0) Q 51 [.ref r0, .ref r1, .int v3, .int (xI μ3 r1 2), .int (xI μ3 r0 3)] [.int (w 0), .ref r1, .ref r0] μ3
          refine g_invV (M' := m_La_readSum) (b1 := 0) (b2 := 0) (As := [.ref r1, .int (w 0)]) (a := r0) (st := []) lk_2_57 (by decide +kernel) rfl (dk_La_readSum d) (Nat.le_of_ble_eq_true rfl) (Or.inl ⟨2, ((((o_r0_2).mono hn1).mono hn2).mono hn3), rfl⟩) h ?_
          rintro _ μ12 ⟨v12, rfl, h⟩ hn12
          show G Γ m_La_readClause (d + 1) (0, 0) Q 54 [.ref r0, .ref r1, .int v3, .int (xI μ3 r1 2), .int (xI μ3 r0 3)] [.int v12] μ12
          refine g_ifz_ne (pc' := 59) (off := 5) (by decide) (by decide +kernel) (fun hc => ?_) (fun hc => ?_)
          · replace h := h.2 hc
            show G Γ m_La_readClause (d + 1) (0, 0) Q 59 [.ref r0, .ref r1, .int v3, .int (xI μ3 r1 2), .int (xI μ3 r0 3)] [] μ12
            refine run_ok (pc' := 60) [(.aload_n 1, 0, 0, 0)] _ _ _ _ (by decide +kernel) ?_
            show G Γ m_La_readClause (d + 1) (0, 0) Q 60 [.ref r0, .ref r1, .int v3, .int (xI μ3 r1 2), .int (xI μ3 r0 3)] [.ref r1] μ12
            refine g_invV (M' := m_Ta_ahead) (b1 := 0) (b2 := 0) (As := []) (a := r1) (st := []) lk_2_42 (by decide +kernel) rfl (dk_Ta_ahead d) (Nat.le_of_ble_eq_true rfl) (Or.inl ⟨9, (((((o_r1_9).mono hn1).mono hn2).mono hn3).mono hn12), rfl⟩) h ?_
            rintro _ μ13 ⟨v13, rfl, h⟩ hn13
            show G Γ m_La_readClause (d + 1) (0, 0) Q 63 [.ref r0, .ref r1, .int v3, .int (xI μ3 r1 2), .int (xI μ3 r0 3)] [.int v13] μ13
            refine g_invS (M' := m_La_isComparison) (b1 := 0) (b2 := 0) (As := [.int v13]) (st := []) lk_2_61 (by decide +kernel) rfl (dk_La_isComparison d) (Nat.le_of_ble_eq_true rfl) h ?_
            rintro _ μ14 ⟨v14, rfl, h⟩ hn14
            show G Γ m_La_readClause (d + 1) (0, 0) Q 66 [.ref r0, .ref r1, .int v3, .int (xI μ3 r1 2), .int (xI μ3 r0 3)] [.int v14] μ14
            refine g_ifz_ne (pc' := 71) (off := 5) (by decide) (by decide +kernel) (fun hc => ?_) (fun hc => ?_)
            · replace h := h.2 hc
              show G Γ m_La_readClause (d + 1) (0, 0) Q 71 [.ref r0, .ref r1, .int v3, .int (xI μ3 r1 2), .int (xI μ3 r0 3)] [] μ14
              refine run_ok (pc' := 76) [(.aload_n 1, 0, 0, 0), (.iload_n 3, 0, 0, 0), (.putfield 54, 9, 2, 0)] _ _ _ _ (by decide +kernel) ?_
              show _ ∧ (_)
              refine ⟨(((((((o_r1_9).mono hn1).mono hn2).mono hn3).mono hn12).mono hn13).mono hn14), ?_⟩
              show G Γ m_La_readClause (d + 1) (0, 0) Q 76 [.ref r0, .ref r1, .int v3, .int (xI μ3 r1 2), .int (xI μ3 r0 3)] [] (sI μ14 r1 2 (xI μ3 r1 2))
              obtain ⟨μ15, em15⟩ : ∃ m : XM, m = sI μ14 r1 2 (xI μ3 r1 2) := ⟨_, rfl⟩
              replace h := h μ15 em15
              have hm15 : xN μ14 ≤ xN μ15 := by rw [em15]; exact Nat.le_refl _
              rw [← em15]
              refine run_ok (pc' := 82) [(.aload_n 0, 0, 0, 0), (.iload 4, 0, 0, 0), (.putfield 25, 2, 3, 0)] _ _ _ _ (by decide +kernel) ?_
              show _ ∧ (_)
              refine ⟨((((((((o_r0_2).mono hn1).mono hn2).mono hn3).mono hn12).mono hn13).mono hn14).mono hm15), ?_⟩
              show G Γ m_La_readClause (d + 1) (0, 0) Q 82 [.ref r0, .ref r1, .int v3, .int (xI μ3 r1 2), .int (xI μ3 r0 3)] [] (sI μ15 r0 3 (xI μ3 r0 3))
              obtain ⟨μ16, em16⟩ : ∃ m : XM, m = sI μ15 r0 3 (xI μ3 r0 3) := ⟨_, rfl⟩
              replace h := h μ16 em16
              have hm16 : xN μ15 ≤ xN μ16 := by rw [em16]; exact Nat.le_refl _
              rw [← em16]
              refine run_ok (pc' := 85) [(.aload_n 0, 0, 0, 0), (.aload_n 1, 0, 0, 0), (.iconst 0, 0, 0, 0)] _ _ _ _ (by decide +kernel) ?_
              show G Γ m_La_readClause (d + 1) (0, 0) Q 85 [.ref r0, .ref r1, .int v3, .int (xI μ3 r1 2), .int (xI μ3 r0 3)] [.int (w 0), .ref r1, .ref r0] μ16
              refine g_invV (M' := m_La_readCondition) (b1 := 0) (b2 := 0) (As := [.ref r1, .int (w 0)]) (a := r0) (st := []) lk_2_64 (by decide +kernel) rfl (dk_La_readCondition d) (Nat.le_of_ble_eq_true rfl) (Or.inl ⟨2, (((((((((o_r0_2).mono hn1).mono hn2).mono hn3).mono hn12).mono hn13).mono hn14).mono hm15).mono hm16), rfl⟩) h ?_
              rintro _ μ17 ⟨v17, rfl, h⟩ hn17
              show G Γ m_La_readClause (d + 1) (0, 0) Q 88 [.ref r0, .ref r1, .int v3, .int (xI μ3 r1 2), .int (xI μ3 r0 3)] [.int v17] μ17
              refine g_ifz_eq (pc' := 100) (off := 12) (by decide) (by decide +kernel) (fun hc => ?_) (fun hc => ?_)
              · replace h := h.1 hc
                show G Γ m_La_readClause (d + 1) (0, 0) Q 100 [.ref r0, .ref r1, .int v3, .int (xI μ3 r1 2), .int (xI μ3 r0 3)] [] μ17
                refine run_ok (pc' := 101) [(.iconst 0, 0, 0, 0)] _ _ _ _ (by decide +kernel) ?_
                show G Γ m_La_readClause (d + 1) (0, 0) Q 101 [.ref r0, .ref r1, .int v3, .int (xI μ3 r1 2), .int (xI μ3 r0 3)] [.int (w 0)] μ17
                exact g_retz (by decide +kernel) rfl (Or.inl rfl) h
              · replace h := h.2 hc
                show G Γ m_La_readClause (d + 1) (0, 0) Q 91 [.ref r0, .ref r1, .int v3, .int (xI μ3 r1 2), .int (xI μ3 r0 3)] [] μ17
                refine run_ok (pc' := 94) [(.aload_n 1, 0, 0, 0), (.bipush 63, 0, 0, 0)] _ _ _ _ (by decide +kernel) ?_
                show G Γ m_La_readClause (d + 1) (0, 0) Q 94 [.ref r0, .ref r1, .int v3, .int (xI μ3 r1 2), .int (xI μ3 r0 3)] [.int (w 63), .ref r1] μ17
                refine g_invV (M' := m_Ta_demand) (b1 := 0) (b2 := 0) (As := [.int (w 63)]) (a := r1) (st := []) lk_2_46 (by decide +kernel) rfl (dk_Ta_demand d) (Nat.le_of_ble_eq_true rfl) (Or.inl ⟨9, ((((((((((o_r1_9).mono hn1).mono hn2).mono hn3).mono hn12).mono hn13).mono hn14).mono hm15).mono hm16).mono hn17), rfl⟩) h ?_
                rintro _ μ18 ⟨v18, rfl, h⟩ hn18
                show G Γ m_La_readClause (d + 1) (0, 0) Q 97 [.ref r0, .ref r1, .int v3, .int (xI μ3 r1 2), .int (xI μ3 r0 3)] [.int v18] μ18
                refine g_ifz_ne (pc' := 102) (off := 5) (by decide) (by decide +kernel) (fun hc => ?_) (fun hc => ?_)
                · replace h := h.2 hc
                  show G Γ m_La_readClause (d + 1) (0, 0) Q 102 [.ref r0, .ref r1, .int v3, .int (xI μ3 r1 2), .int (xI μ3 r0 3)] [] μ18
                  refine run_ok (pc' := 106) [(.aload_n 0, 0, 0, 0), (.sipush 20063, 0, 0, 0)] _ _ _ _ (by decide +kernel) ?_
                  show G Γ m_La_readClause (d + 1) (0, 0) Q 106 [.ref r0, .ref r1, .int v3, .int (xI μ3 r1 2), .int (xI μ3 r0 3)] [.int (w 20063), .ref r0] μ18
                  refine g_invV (M' := m_La_add) (b1 := 0) (b2 := 0) (As := [.int (w 20063)]) (a := r0) (st := []) lk_2_38 (by decide +kernel) rfl (dk_La_add d) (Nat.le_of_ble_eq_true rfl) (Or.inl ⟨2, (((((((((((o_r0_2).mono hn1).mono hn2).mono hn3).mono hn12).mono hn13).mono hn14).mono hm15).mono hm16).mono hn17).mono hn18), rfl⟩) h ?_
                  rintro _ μ19 ⟨rfl, h⟩ hn19
                  show G Γ m_La_readClause (d + 1) (0, 0) Q 109 [.ref r0, .ref r1, .int v3, .int (xI μ3 r1 2), .int (xI μ3 r0 3)] [] μ19
                  refine run_ok (pc' := 112) [(.aload_n 0, 0, 0, 0), (.aload_n 1, 0, 0, 0), (.iconst 0, 0, 0, 0)] _ _ _ _ (by decide +kernel) ?_
                  show G Γ m_La_readClause (d + 1) (0, 0) Q 112 [.ref r0, .ref r1, .int v3, .int (xI μ3 r1 2), .int (xI μ3 r0 3)] [.int (w 0), .ref r1, .ref r0] μ19
                  refine g_invV (M' := m_La_readSum) (b1 := 0) (b2 := 0) (As := [.ref r1, .int (w 0)]) (a := r0) (st := []) lk_2_57 (by decide +kernel) rfl (dk_La_readSum d) (Nat.le_of_ble_eq_true rfl) (Or.inl ⟨2, ((((((((((((o_r0_2).mono hn1).mono hn2).mono hn3).mono hn12).mono hn13).mono hn14).mono hm15).mono hm16).mono hn17).mono hn18).mono hn19), rfl⟩) h ?_
                  rintro _ μ20 ⟨v20, rfl, h⟩ hn20
                  show G Γ m_La_readClause (d + 1) (0, 0) Q 115 [.ref r0, .ref r1, .int v3, .int (xI μ3 r1 2), .int (xI μ3 r0 3)] [.int v20] μ20
                  exact g_retz (by decide +kernel) rfl h.1 h.2
                · replace h := h.1 hc
                  show G Γ m_La_readClause (d + 1) (0, 0) Q 100 [.ref r0, .ref r1, .int v3, .int (xI μ3 r1 2), .int (xI μ3 r0 3)] [] μ18
                  refine run_ok (pc' := 101) [(.iconst 0, 0, 0, 0)] _ _ _ _ (by decide +kernel) ?_
                  show G Γ m_La_readClause (d + 1) (0, 0) Q 101 [.ref r0, .ref r1, .int v3, .int (xI μ3 r1 2), .int (xI μ3 r0 3)] [.int (w 0)] μ18
                  exact g_retz (by decide +kernel) rfl (Or.inl rfl) h
            · replace h := h.1 hc
              show G Γ m_La_readClause (d + 1) (0, 0) Q 69 [.ref r0, .ref r1, .int v3, .int (xI μ3 r1 2), .int (xI μ3 r0 3)] [] μ14
              refine run_ok (pc' := 70) [(.iconst 1, 0, 0, 0)] _ _ _ _ (by decide +kernel) ?_
              show G Γ m_La_readClause (d + 1) (0, 0) Q 70 [.ref r0, .ref r1, .int v3, .int (xI μ3 r1 2), .int (xI μ3 r0 3)] [.int (w 1)] μ14
              exact g_retz (by decide +kernel) rfl (Or.inr rfl) h
          · replace h := h.1 hc
            show G Γ m_La_readClause (d + 1) (0, 0) Q 57 [.ref r0, .ref r1, .int v3, .int (xI μ3 r1 2), .int (xI μ3 r0 3)] [] μ12
            refine run_ok (pc' := 58) [(.iconst 0, 0, 0, 0)] _ _ _ _ (by decide +kernel) ?_
            show G Γ m_La_readClause (d + 1) (0, 0) Q 58 [.ref r0, .ref r1, .int v3, .int (xI μ3 r1 2), .int (xI μ3 r0 3)] [.int (w 0)] μ12
            exact g_retz (by decide +kernel) rfl (Or.inl rfl) h
    · replace h := h.1 hc
      show G Γ m_La_readClause (d + 1) (0, 0) Q 18 [.ref r0, .ref r1] [] μ2
      refine run_ok (pc' := 19) [(.iconst 0, 0, 0, 0)] _ _ _ _ (by decide +kernel) ?_
      show G Γ m_La_readClause (d + 1) (0, 0) Q 19 [.ref r0, .ref r1] [.int (w 0)] μ2
      exact g_retz (by decide +kernel) rfl (Or.inl rfl) h
/-! FrostBox$Law readCondition(LFrostBox$Tape;I)Z -/
set_option maxRecDepth 100000 in
theorem lk_2_67 : LkV 2 67 m_La_readTruth 2 := ⟨lc_La_readTruth, lwG_in (List.mem_of_getElem? (i := 600) rfl) rfl, lwG_in (List.mem_of_getElem? (i := 602) rfl) rfl, lwG_in (List.mem_of_getElem? (i := 10) rfl) rfl⟩
set_option maxRecDepth 100000 in
theorem lk_2_70 : LkV 2 70 m_Ta_pass 0 := ⟨lc_Ta_pass, lwG_in (List.mem_of_getElem? (i := 586) rfl) rfl, lwG_in (List.mem_of_getElem? (i := 499) rfl) rfl, lwG_in (List.mem_of_getElem? (i := 500) rfl) rfl⟩
set_option maxRecDepth 100000 in
theorem B_La_readCondition_0 {Γ : XG} {d : Nat} {Q : Option Value → XM → Prop} {r0 r1 : Nat} {x2 : Int32} {μ : XM} (o_r0_2 : ob μ r0 2) (h : Call Γ m_La_readTruth d [.ref r0, .ref r1, .int x2] μ (KI (fun v1 μ1 => ((v1 = w 0 → Q (some (.int (w 0))) μ1) ∧ (¬ v1 = w 0 → G Γ m_La_readCondition (d + 1) (0, 0) Q 13 [.ref r0, .ref r1, .int x2, .int (w 0)] [] μ1))))) : G Γ m_La_readCondition (d + 1) (0, 0) Q 0 [.ref r0, .ref r1, .int x2] [] μ := by
  refine run_ok (pc' := 3) [(.aload_n 0, 0, 0, 0), (.aload_n 1, 0, 0, 0), (.iload_n 2, 0, 0, 0)] _ _ _ _ (by decide +kernel) ?_
  show G Γ m_La_readCondition (d + 1) (0, 0) Q 3 [.ref r0, .ref r1, .int x2] [.int x2, .ref r1, .ref r0] μ
  refine g_invV (M' := m_La_readTruth) (b1 := 0) (b2 := 0) (As := [.ref r1, .int x2]) (a := r0) (st := []) lk_2_67 (by decide +kernel) rfl (dk_La_readTruth d) (Nat.le_of_ble_eq_true rfl) (Or.inl ⟨2, o_r0_2, rfl⟩) h ?_
  rintro _ μ1 ⟨v1, rfl, h⟩ hn1
  show G Γ m_La_readCondition (d + 1) (0, 0) Q 6 [.ref r0, .ref r1, .int x2] [.int v1] μ1
  refine g_ifz_ne (pc' := 11) (off := 5) (by decide) (by decide +kernel) (fun hc => ?_) (fun hc => ?_)
  · replace h := h.2 hc
    show G Γ m_La_readCondition (d + 1) (0, 0) Q 11 [.ref r0, .ref r1, .int x2] [] μ1
    refine run_ok (pc' := 13) [(.iconst 0, 0, 0, 0), (.istore_n 3, 0, 0, 0)] _ _ _ _ (by decide +kernel) ?_
    show G Γ m_La_readCondition (d + 1) (0, 0) Q 13 [.ref r0, .ref r1, .int x2, .int (w 0)] [] μ1
    exact h
  · replace h := h.1 hc
    show G Γ m_La_readCondition (d + 1) (0, 0) Q 9 [.ref r0, .ref r1, .int x2] [] μ1
    refine run_ok (pc' := 10) [(.iconst 0, 0, 0, 0)] _ _ _ _ (by decide +kernel) ?_
    show G Γ m_La_readCondition (d + 1) (0, 0) Q 10 [.ref r0, .ref r1, .int x2] [.int (w 0)] μ1
    exact g_retz (by decide +kernel) rfl (Or.inl rfl) h
set_option maxRecDepth 100000 in
theorem B_La_readCondition_13 {Γ : XG} {d : Nat} {Q : Option Value → XM → Prop} {r0 r1 : Nat} {x2 x3 : Int32} {μ : XM} (o_r1_9 : ob μ r1 9) (o_r0_2 : ob μ r0 2) (h : ((x3 < w 240 → Call Γ m_Ta_ahead d [.ref r1] μ (KI (fun v1 μ1 => ((v1 = w 124 → Call Γ m_Ta_pass d [.ref r1] μ1 (KV (fun μ2 => Call Γ m_La_readTruth d [.ref r0, .ref r1, .int x2] μ2 (KI (fun v3 μ3 => ((v3 = w 0 → Q (some (.int (w 0))) μ3) ∧ (¬ v3 = w 0 → Call Γ m_La_add d [.ref r0, .int (w 20124)] μ3 (KV (fun μ4 => G Γ m_La_readCondition (d + 1) (0, 0) Q 13 [.ref r0, .ref r1, .int x2, .int (x3 + w 1)] [] μ4))))))))) ∧ (¬ v1 = w 124 → Q (some (.int (w 1))) μ1))))) ∧ (¬ x3 < w 240 → Q (some (.int (w 1))) μ))) : G Γ m_La_readCondition (d + 1) (0, 0) Q 13 [.ref r0, .ref r1, .int x2, .int x3] [] μ := by
  refine run_ok (pc' := 17) [(.iload_n 3, 0, 0, 0), (.sipush 240, 0, 0, 0)] _ _ _ _ (by decide +kernel) ?_
  show G Γ m_La_readCondition (d + 1) (0, 0) Q 17 [.ref r0, .ref r1, .int x2, .int x3] [.int (w 240), .int x3] μ
  refine g_icmp_ge (pc' := 57) (off := 40) (by decide) (by decide +kernel) (fun hc => ?_) (fun hc => ?_)
  · replace h := h.2 hc
    show G Γ m_La_readCondition (d + 1) (0, 0) Q 57 [.ref r0, .ref r1, .int x2, .int x3] [] μ
    refine run_ok (pc' := 58) [(.iconst 1, 0, 0, 0)] _ _ _ _ (by decide +kernel) ?_
    show G Γ m_La_readCondition (d + 1) (0, 0) Q 58 [.ref r0, .ref r1, .int x2, .int x3] [.int (w 1)] μ
    exact g_retz (by decide +kernel) rfl (Or.inr rfl) h
  · replace h := h.1 hc
    show G Γ m_La_readCondition (d + 1) (0, 0) Q 20 [.ref r0, .ref r1, .int x2, .int x3] [] μ
    refine run_ok (pc' := 21) [(.aload_n 1, 0, 0, 0)] _ _ _ _ (by decide +kernel) ?_
    show G Γ m_La_readCondition (d + 1) (0, 0) Q 21 [.ref r0, .ref r1, .int x2, .int x3] [.ref r1] μ
    refine g_invV (M' := m_Ta_ahead) (b1 := 0) (b2 := 0) (As := []) (a := r1) (st := []) lk_2_42 (by decide +kernel) rfl (dk_Ta_ahead d) (Nat.le_of_ble_eq_true rfl) (Or.inl ⟨9, o_r1_9, rfl⟩) h ?_
    rintro _ μ1 ⟨v1, rfl, h⟩ hn1
    show G Γ m_La_readCondition (d + 1) (0, 0) Q 24 [.ref r0, .ref r1, .int x2, .int x3] [.int v1] μ1
    refine run_ok (pc' := 26) [(.bipush 124, 0, 0, 0)] _ _ _ _ (by decide +kernel) ?_
    show G Γ m_La_readCondition (d + 1) (0, 0) Q 26 [.ref r0, .ref r1, .int x2, .int x3] [.int (w 124), .int v1] μ1
    refine g_icmp_ne (pc' := 57) (off := 31) (by decide) (by decide +kernel) (fun hc => ?_) (fun hc => ?_)
    · replace h := h.2 hc
      show G Γ m_La_readCondition (d + 1) (0, 0) Q 57 [.ref r0, .ref r1, .int x2, .int x3] [] μ1
      refine run_ok (pc' := 58) [(.iconst 1, 0, 0, 0)] _ _ _ _ (by decide +kernel) ?_
      show G Γ m_La_readCondition (d + 1) (0, 0) Q 58 [.ref r0, .ref r1, .int x2, .int x3] [.int (w 1)] μ1
      exact g_retz (by decide +kernel) rfl (Or.inr rfl) h
    · replace h := h.1 hc
      show G Γ m_La_readCondition (d + 1) (0, 0) Q 29 [.ref r0, .ref r1, .int x2, .int x3] [] μ1
      refine run_ok (pc' := 30) [(.aload_n 1, 0, 0, 0)] _ _ _ _ (by decide +kernel) ?_
      show G Γ m_La_readCondition (d + 1) (0, 0) Q 30 [.ref r0, .ref r1, .int x2, .int x3] [.ref r1] μ1
      refine g_invV (M' := m_Ta_pass) (b1 := 0) (b2 := 0) (As := []) (a := r1) (st := []) lk_2_70 (by decide +kernel) rfl (dk_Ta_pass d) (Nat.le_of_ble_eq_true rfl) (Or.inl ⟨9, ((o_r1_9).mono hn1), rfl⟩) h ?_
      rintro _ μ2 ⟨rfl, h⟩ hn2
      show G Γ m_La_readCondition (d + 1) (0, 0) Q 33 [.ref r0, .ref r1, .int x2, .int x3] [] μ2
      refine run_ok (pc' := 36) [(.aload_n 0, 0, 0, 0), (.aload_n 1, 0, 0, 0), (.iload_n 2, 0, 0, 0)] _ _ _ _ (by decide +kernel) ?_
      show G Γ m_La_readCondition (d + 1) (0, 0) Q 36 [.ref r0, .ref r1, .int x2, .int x3] [.int x2, .ref r1, .ref r0] μ2
      refine g_invV (M' := m_La_readTruth) (b1 := 0) (b2 := 0) (As := [.ref r1, .int x2]) (a := r0) (st := []) lk_2_67 (by decide +kernel) rfl (dk_La_readTruth d) (Nat.le_of_ble_eq_true rfl) (Or.inl ⟨2, (((o_r0_2).mono hn1).mono hn2), rfl⟩) h ?_
      rintro _ μ3 ⟨v3, rfl, h⟩ hn3
      show G Γ m_La_readCondition (d + 1) (0, 0) Q 39 [.ref r0, .ref r1, .int x2, .int x3] [.int v3] μ3
      refine g_ifz_ne (pc' := 44) (off := 5) (by decide) (by decide +kernel) (fun hc => ?_) (fun hc => ?_)
      · replace h := h.2 hc
        show G Γ m_La_readCondition (d + 1) (0, 0) Q 44 [.ref r0, .ref r1, .int x2, .int x3] [] μ3
        refine run_ok (pc' := 48) [(.aload_n 0, 0, 0, 0), (.sipush 20124, 0, 0, 0)] _ _ _ _ (by decide +kernel) ?_
        show G Γ m_La_readCondition (d + 1) (0, 0) Q 48 [.ref r0, .ref r1, .int x2, .int x3] [.int (w 20124), .ref r0] μ3
        refine g_invV (M' := m_La_add) (b1 := 0) (b2 := 0) (As := [.int (w 20124)]) (a := r0) (st := []) lk_2_38 (by decide +kernel) rfl (dk_La_add d) (Nat.le_of_ble_eq_true rfl) (Or.inl ⟨2, ((((o_r0_2).mono hn1).mono hn2).mono hn3), rfl⟩) h ?_
        rintro _ μ4 ⟨rfl, h⟩ hn4
        show G Γ m_La_readCondition (d + 1) (0, 0) Q 51 [.ref r0, .ref r1, .int x2, .int x3] [] μ4
        refine run_ok (pc' := 13) [(.iinc 3 1, 0, 0, 0), (.goto (-41), 0, 0, 0)] _ _ _ _ (by decide +kernel) ?_
        show G Γ m_La_readCondition (d + 1) (0, 0) Q 13 [.ref r0, .ref r1, .int x2, .int (x3 + w 1)] [] μ4
        exact h
      · replace h := h.1 hc
        show G Γ m_La_readCondition (d + 1) (0, 0) Q 42 [.ref r0, .ref r1, .int x2, .int x3] [] μ3
        refine run_ok (pc' := 43) [(.iconst 0, 0, 0, 0)] _ _ _ _ (by decide +kernel) ?_
        show G Γ m_La_readCondition (d + 1) (0, 0) Q 43 [.ref r0, .ref r1, .int x2, .int x3] [.int (w 0)] μ3
        exact g_retz (by decide +kernel) rfl (Or.inl rfl) h
/-! FrostBox$Law readTruth(LFrostBox$Tape;I)Z -/
set_option maxRecDepth 100000 in
theorem lk_2_73 : LkV 2 73 m_La_readUnit 2 := ⟨lc_La_readUnit, lwG_in (List.mem_of_getElem? (i := 604) rfl) rfl, lwG_in (List.mem_of_getElem? (i := 606) rfl) rfl, lwG_in (List.mem_of_getElem? (i := 11) rfl) rfl⟩
set_option maxRecDepth 100000 in
theorem B_La_readTruth_0 {Γ : XG} {d : Nat} {Q : Option Value → XM → Prop} {r0 r1 : Nat} {x2 : Int32} {μ : XM} (o_r0_2 : ob μ r0 2) (h : Call Γ m_La_readUnit d [.ref r0, .ref r1, .int x2] μ (KI (fun v1 μ1 => ((v1 = w 0 → Q (some (.int (w 0))) μ1) ∧ (¬ v1 = w 0 → G Γ m_La_readTruth (d + 1) (0, 0) Q 13 [.ref r0, .ref r1, .int x2, .int (w 0)] [] μ1))))) : G Γ m_La_readTruth (d + 1) (0, 0) Q 0 [.ref r0, .ref r1, .int x2] [] μ := by
  refine run_ok (pc' := 3) [(.aload_n 0, 0, 0, 0), (.aload_n 1, 0, 0, 0), (.iload_n 2, 0, 0, 0)] _ _ _ _ (by decide +kernel) ?_
  show G Γ m_La_readTruth (d + 1) (0, 0) Q 3 [.ref r0, .ref r1, .int x2] [.int x2, .ref r1, .ref r0] μ
  refine g_invV (M' := m_La_readUnit) (b1 := 0) (b2 := 0) (As := [.ref r1, .int x2]) (a := r0) (st := []) lk_2_73 (by decide +kernel) rfl (dk_La_readUnit d) (Nat.le_of_ble_eq_true rfl) (Or.inl ⟨2, o_r0_2, rfl⟩) h ?_
  rintro _ μ1 ⟨v1, rfl, h⟩ hn1
  show G Γ m_La_readTruth (d + 1) (0, 0) Q 6 [.ref r0, .ref r1, .int x2] [.int v1] μ1
  refine g_ifz_ne (pc' := 11) (off := 5) (by decide) (by decide +kernel) (fun hc => ?_) (fun hc => ?_)
  · replace h := h.2 hc
    show G Γ m_La_readTruth (d + 1) (0, 0) Q 11 [.ref r0, .ref r1, .int x2] [] μ1
    refine run_ok (pc' := 13) [(.iconst 0, 0, 0, 0), (.istore_n 3, 0, 0, 0)] _ _ _ _ (by decide +kernel) ?_
    show G Γ m_La_readTruth (d + 1) (0, 0) Q 13 [.ref r0, .ref r1, .int x2, .int (w 0)] [] μ1
    exact h
  · replace h := h.1 hc
    show G Γ m_La_readTruth (d + 1) (0, 0) Q 9 [.ref r0, .ref r1, .int x2] [] μ1
    refine run_ok (pc' := 10) [(.iconst 0, 0, 0, 0)] _ _ _ _ (by decide +kernel) ?_
    show G Γ m_La_readTruth (d + 1) (0, 0) Q 10 [.ref r0, .ref r1, .int x2] [.int (w 0)] μ1
    exact g_retz (by decide +kernel) rfl (Or.inl rfl) h
set_option maxRecDepth 100000 in
theorem B_La_readTruth_13 {Γ : XG} {d : Nat} {Q : Option Value → XM → Prop} {r0 r1 : Nat} {x2 x3 : Int32} {μ : XM} (o_r1_9 : ob μ r1 9) (o_r0_2 : ob μ r0 2) (h : ((x3 < w 240 → Call Γ m_Ta_ahead d [.ref r1] μ (KI (fun v1 μ1 => ((v1 = w 38 → Call Γ m_Ta_pass d [.ref r1] μ1 (KV (fun μ2 => Call Γ m_La_readUnit d [.ref r0, .ref r1, .int x2] μ2 (KI (fun v3 μ3 => ((v3 = w 0 → Q (some (.int (w 0))) μ3) ∧ (¬ v3 = w 0 → Call Γ m_La_add d [.ref r0, .int (w 20038)] μ3 (KV (fun μ4 => G Γ m_La_readTruth (d + 1) (0, 0) Q 13 [.ref r0, .ref r1, .int x2, .int (x3 + w 1)] [] μ4))))))))) ∧ (¬ v1 = w 38 → Q (some (.int (w 1))) μ1))))) ∧ (¬ x3 < w 240 → Q (some (.int (w 1))) μ))) : G Γ m_La_readTruth (d + 1) (0, 0) Q 13 [.ref r0, .ref r1, .int x2, .int x3] [] μ := by
  refine run_ok (pc' := 17) [(.iload_n 3, 0, 0, 0), (.sipush 240, 0, 0, 0)] _ _ _ _ (by decide +kernel) ?_
  show G Γ m_La_readTruth (d + 1) (0, 0) Q 17 [.ref r0, .ref r1, .int x2, .int x3] [.int (w 240), .int x3] μ
  refine g_icmp_ge (pc' := 57) (off := 40) (by decide) (by decide +kernel) (fun hc => ?_) (fun hc => ?_)
  · replace h := h.2 hc
    show G Γ m_La_readTruth (d + 1) (0, 0) Q 57 [.ref r0, .ref r1, .int x2, .int x3] [] μ
    refine run_ok (pc' := 58) [(.iconst 1, 0, 0, 0)] _ _ _ _ (by decide +kernel) ?_
    show G Γ m_La_readTruth (d + 1) (0, 0) Q 58 [.ref r0, .ref r1, .int x2, .int x3] [.int (w 1)] μ
    exact g_retz (by decide +kernel) rfl (Or.inr rfl) h
  · replace h := h.1 hc
    show G Γ m_La_readTruth (d + 1) (0, 0) Q 20 [.ref r0, .ref r1, .int x2, .int x3] [] μ
    refine run_ok (pc' := 21) [(.aload_n 1, 0, 0, 0)] _ _ _ _ (by decide +kernel) ?_
    show G Γ m_La_readTruth (d + 1) (0, 0) Q 21 [.ref r0, .ref r1, .int x2, .int x3] [.ref r1] μ
    refine g_invV (M' := m_Ta_ahead) (b1 := 0) (b2 := 0) (As := []) (a := r1) (st := []) lk_2_42 (by decide +kernel) rfl (dk_Ta_ahead d) (Nat.le_of_ble_eq_true rfl) (Or.inl ⟨9, o_r1_9, rfl⟩) h ?_
    rintro _ μ1 ⟨v1, rfl, h⟩ hn1
    show G Γ m_La_readTruth (d + 1) (0, 0) Q 24 [.ref r0, .ref r1, .int x2, .int x3] [.int v1] μ1
    refine run_ok (pc' := 26) [(.bipush 38, 0, 0, 0)] _ _ _ _ (by decide +kernel) ?_
    show G Γ m_La_readTruth (d + 1) (0, 0) Q 26 [.ref r0, .ref r1, .int x2, .int x3] [.int (w 38), .int v1] μ1
    refine g_icmp_ne (pc' := 57) (off := 31) (by decide) (by decide +kernel) (fun hc => ?_) (fun hc => ?_)
    · replace h := h.2 hc
      show G Γ m_La_readTruth (d + 1) (0, 0) Q 57 [.ref r0, .ref r1, .int x2, .int x3] [] μ1
      refine run_ok (pc' := 58) [(.iconst 1, 0, 0, 0)] _ _ _ _ (by decide +kernel) ?_
      show G Γ m_La_readTruth (d + 1) (0, 0) Q 58 [.ref r0, .ref r1, .int x2, .int x3] [.int (w 1)] μ1
      exact g_retz (by decide +kernel) rfl (Or.inr rfl) h
    · replace h := h.1 hc
      show G Γ m_La_readTruth (d + 1) (0, 0) Q 29 [.ref r0, .ref r1, .int x2, .int x3] [] μ1
      refine run_ok (pc' := 30) [(.aload_n 1, 0, 0, 0)] _ _ _ _ (by decide +kernel) ?_
      show G Γ m_La_readTruth (d + 1) (0, 0) Q 30 [.ref r0, .ref r1, .int x2, .int x3] [.ref r1] μ1
      refine g_invV (M' := m_Ta_pass) (b1 := 0) (b2 := 0) (As := []) (a := r1) (st := []) lk_2_70 (by decide +kernel) rfl (dk_Ta_pass d) (Nat.le_of_ble_eq_true rfl) (Or.inl ⟨9, ((o_r1_9).mono hn1), rfl⟩) h ?_
      rintro _ μ2 ⟨rfl, h⟩ hn2
      show G Γ m_La_readTruth (d + 1) (0, 0) Q 33 [.ref r0, .ref r1, .int x2, .int x3] [] μ2
      refine run_ok (pc' := 36) [(.aload_n 0, 0, 0, 0), (.aload_n 1, 0, 0, 0), (.iload_n 2, 0, 0, 0)] _ _ _ _ (by decide +kernel) ?_
      show G Γ m_La_readTruth (d + 1) (0, 0) Q 36 [.ref r0, .ref r1, .int x2, .int x3] [.int x2, .ref r1, .ref r0] μ2
      refine g_invV (M' := m_La_readUnit) (b1 := 0) (b2 := 0) (As := [.ref r1, .int x2]) (a := r0) (st := []) lk_2_73 (by decide +kernel) rfl (dk_La_readUnit d) (Nat.le_of_ble_eq_true rfl) (Or.inl ⟨2, (((o_r0_2).mono hn1).mono hn2), rfl⟩) h ?_
      rintro _ μ3 ⟨v3, rfl, h⟩ hn3
      show G Γ m_La_readTruth (d + 1) (0, 0) Q 39 [.ref r0, .ref r1, .int x2, .int x3] [.int v3] μ3
      refine g_ifz_ne (pc' := 44) (off := 5) (by decide) (by decide +kernel) (fun hc => ?_) (fun hc => ?_)
      · replace h := h.2 hc
        show G Γ m_La_readTruth (d + 1) (0, 0) Q 44 [.ref r0, .ref r1, .int x2, .int x3] [] μ3
        refine run_ok (pc' := 48) [(.aload_n 0, 0, 0, 0), (.sipush 20038, 0, 0, 0)] _ _ _ _ (by decide +kernel) ?_
        show G Γ m_La_readTruth (d + 1) (0, 0) Q 48 [.ref r0, .ref r1, .int x2, .int x3] [.int (w 20038), .ref r0] μ3
        refine g_invV (M' := m_La_add) (b1 := 0) (b2 := 0) (As := [.int (w 20038)]) (a := r0) (st := []) lk_2_38 (by decide +kernel) rfl (dk_La_add d) (Nat.le_of_ble_eq_true rfl) (Or.inl ⟨2, ((((o_r0_2).mono hn1).mono hn2).mono hn3), rfl⟩) h ?_
        rintro _ μ4 ⟨rfl, h⟩ hn4
        show G Γ m_La_readTruth (d + 1) (0, 0) Q 51 [.ref r0, .ref r1, .int x2, .int x3] [] μ4
        refine run_ok (pc' := 13) [(.iinc 3 1, 0, 0, 0), (.goto (-41), 0, 0, 0)] _ _ _ _ (by decide +kernel) ?_
        show G Γ m_La_readTruth (d + 1) (0, 0) Q 13 [.ref r0, .ref r1, .int x2, .int (x3 + w 1)] [] μ4
        exact h
      · replace h := h.1 hc
        show G Γ m_La_readTruth (d + 1) (0, 0) Q 42 [.ref r0, .ref r1, .int x2, .int x3] [] μ3
        refine run_ok (pc' := 43) [(.iconst 0, 0, 0, 0)] _ _ _ _ (by decide +kernel) ?_
        show G Γ m_La_readTruth (d + 1) (0, 0) Q 43 [.ref r0, .ref r1, .int x2, .int x3] [.int (w 0)] μ3
        exact g_retz (by decide +kernel) rfl (Or.inl rfl) h
/-! FrostBox$Law readUnit(LFrostBox$Tape;I)Z -/
set_option maxRecDepth 100000 in
theorem lk_2_76 : LkV 2 76 m_La_readNested 3 := ⟨lc_La_readNested, lwG_in (List.mem_of_getElem? (i := 608) rfl) rfl, lwG_in (List.mem_of_getElem? (i := 610) rfl) rfl, lwG_in (List.mem_of_getElem? (i := 12) rfl) rfl⟩
set_option maxRecDepth 100000 in
theorem B_La_readUnit_0 {Γ : XG} {d : Nat} {Q : Option Value → XM → Prop} {r0 r1 : Nat} {x2 : Int32} {μ : XM} (o_r1_9 : ob μ r1 9) (o_r0_2 : ob μ r0 2) (h : Call Γ m_Ta_ahead d [.ref r1] μ (KI (fun v1 μ1 => ((v1 = w 33 → Call Γ m_La_readNested d [.ref r0, .ref r1, .int x2, .int v1] μ1 (KI (fun v2 μ2 => ((v2 = w 0 ∨ v2 = w 1) ∧ Q (some (.int v2)) μ2)))) ∧ (¬ v1 = w 33 → ((v1 = w 40 → Call Γ m_La_readNested d [.ref r0, .ref r1, .int x2, .int v1] μ1 (KI (fun v10 μ10 => ((v10 = w 0 ∨ v10 = w 1) ∧ Q (some (.int v10)) μ10)))) ∧ (¬ v1 = w 40 → Call Γ m_La_readSum d [.ref r0, .ref r1, .int x2] μ1 (KI (fun v3 μ3 => ((v3 = w 0 → Q (some (.int (w 0))) μ3) ∧ (¬ v3 = w 0 → Call Γ m_Ta_ahead d [.ref r1] μ3 (KI (fun v4 μ4 => Call Γ m_La_isComparison d [.int v4] μ4 (KI (fun v5 μ5 => ((v5 = w 0 → Call Γ m_Ta_refuse d [.ref r1] μ5 (KI (fun v9 μ9 => ((v9 = w 0 ∨ v9 = w 1) ∧ Q (some (.int v9)) μ9)))) ∧ (¬ v5 = w 0 → Call Γ m_Ta_pass d [.ref r1] μ5 (KV (fun μ6 => Call Γ m_La_readSum d [.ref r0, .ref r1, .int x2] μ6 (KI (fun v7 μ7 => ((v7 = w 0 → Q (some (.int (w 0))) μ7) ∧ (¬ v7 = w 0 → Call Γ m_La_add d [.ref r0, .int ((w 20000) + v4)] μ7 (KV (fun μ8 => Q (some (.int (w 1))) μ8))))))))))))))))))))))))) : G Γ m_La_readUnit (d + 1) (0, 0) Q 0 [.ref r0, .ref r1, .int x2] [] μ := by
  refine run_ok (pc' := 1) [(.aload_n 1, 0, 0, 0)] _ _ _ _ (by decide +kernel) ?_
  show G Γ m_La_readUnit (d + 1) (0, 0) Q 1 [.ref r0, .ref r1, .int x2] [.ref r1] μ
  refine g_invV (M' := m_Ta_ahead) (b1 := 0) (b2 := 0) (As := []) (a := r1) (st := []) lk_2_42 (by decide +kernel) rfl (dk_Ta_ahead d) (Nat.le_of_ble_eq_true rfl) (Or.inl ⟨9, o_r1_9, rfl⟩) h ?_
  rintro _ μ1 ⟨v1, rfl, h⟩ hn1
  show G Γ m_La_readUnit (d + 1) (0, 0) Q 4 [.ref r0, .ref r1, .int x2] [.int v1] μ1
  refine run_ok (pc' := 8) [(.istore_n 3, 0, 0, 0), (.iload_n 3, 0, 0, 0), (.bipush 33, 0, 0, 0)] _ _ _ _ (by decide +kernel) ?_
  show G Γ m_La_readUnit (d + 1) (0, 0) Q 8 [.ref r0, .ref r1, .int x2, .int v1] [.int (w 33), .int v1] μ1
  refine g_icmp_eq (pc' := 17) (off := 9) (by decide) (by decide +kernel) (fun hc => ?_) (fun hc => ?_)
  · replace h := h.1 hc
    show G Γ m_La_readUnit (d + 1) (0, 0) Q 17 [.ref r0, .ref r1, .int x2, .int v1] [] μ1
    refine run_ok (pc' := 21) [(.aload_n 0, 0, 0, 0), (.aload_n 1, 0, 0, 0), (.iload_n 2, 0, 0, 0), (.iload_n 3, 0, 0, 0)] _ _ _ _ (by decide +kernel) ?_
    show G Γ m_La_readUnit (d + 1) (0, 0) Q 21 [.ref r0, .ref r1, .int x2, .int v1] [.int v1, .int x2, .ref r1, .ref r0] μ1
    refine g_invV (M' := m_La_readNested) (b1 := 0) (b2 := 0) (As := [.ref r1, .int x2, .int v1]) (a := r0) (st := []) lk_2_76 (by decide +kernel) rfl (dk_La_readNested d) (Nat.le_of_ble_eq_true rfl) (Or.inl ⟨2, ((o_r0_2).mono hn1), rfl⟩) h ?_
    rintro _ μ2 ⟨v2, rfl, h⟩ hn2
    show G Γ m_La_readUnit (d + 1) (0, 0) Q 24 [.ref r0, .ref r1, .int x2, .int v1] [.int v2] μ2
    exact g_retz (by decide +kernel) rfl h.1 h.2
  · replace h := h.2 hc
    show G Γ m_La_readUnit (d + 1) (0, 0) Q 11 [.ref r0, .ref r1, .int x2, .int v1] [] μ1
    refine run_ok (pc' := 14) [(.iload_n 3, 0, 0, 0), (.bipush 40, 0, 0, 0)] _ _ _ _ (by decide +kernel) ?_
    show G Γ m_La_readUnit (d + 1) (0, 0) Q 14 [.ref r0, .ref r1, .int x2, .int v1] [.int (w 40), .int v1] μ1
    refine g_icmp_ne (pc' := 25) (off := 11) (by decide) (by decide +kernel) (fun hc => ?_) (fun hc => ?_)
    · replace h := h.2 hc
      show G Γ m_La_readUnit (d + 1) (0, 0) Q 25 [.ref r0, .ref r1, .int x2, .int v1] [] μ1
      refine run_ok (pc' := 28) [(.aload_n 0, 0, 0, 0), (.aload_n 1, 0, 0, 0), (.iload_n 2, 0, 0, 0)] _ _ _ _ (by decide +kernel) ?_
      show G Γ m_La_readUnit (d + 1) (0, 0) Q 28 [.ref r0, .ref r1, .int x2, .int v1] [.int x2, .ref r1, .ref r0] μ1
      refine g_invV (M' := m_La_readSum) (b1 := 0) (b2 := 0) (As := [.ref r1, .int x2]) (a := r0) (st := []) lk_2_57 (by decide +kernel) rfl (dk_La_readSum d) (Nat.le_of_ble_eq_true rfl) (Or.inl ⟨2, ((o_r0_2).mono hn1), rfl⟩) h ?_
      rintro _ μ3 ⟨v3, rfl, h⟩ hn3
      show G Γ m_La_readUnit (d + 1) (0, 0) Q 31 [.ref r0, .ref r1, .int x2, .int v1] [.int v3] μ3
      refine g_ifz_ne (pc' := 36) (off := 5) (by decide) (by decide +kernel) (fun hc => ?_) (fun hc => ?_)
      · replace h := h.2 hc
        show G Γ m_La_readUnit (d + 1) (0, 0) Q 36 [.ref r0, .ref r1, .int x2, .int v1] [] μ3
        refine run_ok (pc' := 37) [(.aload_n 1, 0, 0, 0)] _ _ _ _ (by decide +kernel) ?_
        show G Γ m_La_readUnit (d + 1) (0, 0) Q 37 [.ref r0, .ref r1, .int x2, .int v1] [.ref r1] μ3
        refine g_invV (M' := m_Ta_ahead) (b1 := 0) (b2 := 0) (As := []) (a := r1) (st := []) lk_2_42 (by decide +kernel) rfl (dk_Ta_ahead d) (Nat.le_of_ble_eq_true rfl) (Or.inl ⟨9, (((o_r1_9).mono hn1).mono hn3), rfl⟩) h ?_
        rintro _ μ4 ⟨v4, rfl, h⟩ hn4
        show G Γ m_La_readUnit (d + 1) (0, 0) Q 40 [.ref r0, .ref r1, .int x2, .int v1] [.int v4] μ4
        refine run_ok (pc' := 42) [(.istore_n 3, 0, 0, 0), (.iload_n 3, 0, 0, 0)] _ _ _ _ (by decide +kernel) ?_
        show G Γ m_La_readUnit (d + 1) (0, 0) Q 42 [.ref r0, .ref r1, .int x2, .int v4] [.int v4] μ4
        refine g_invS (M' := m_La_isComparison) (b1 := 0) (b2 := 0) (As := [.int v4]) (st := []) lk_2_61 (by decide +kernel) rfl (dk_La_isComparison d) (Nat.le_of_ble_eq_true rfl) h ?_
        rintro _ μ5 ⟨v5, rfl, h⟩ hn5
        show G Γ m_La_readUnit (d + 1) (0, 0) Q 45 [.ref r0, .ref r1, .int x2, .int v4] [.int v5] μ5
        refine g_ifz_ne (pc' := 53) (off := 8) (by decide) (by decide +kernel) (fun hc => ?_) (fun hc => ?_)
        · replace h := h.2 hc
          show G Γ m_La_readUnit (d + 1) (0, 0) Q 53 [.ref r0, .ref r1, .int x2, .int v4] [] μ5
          refine run_ok (pc' := 54) [(.aload_n 1, 0, 0, 0)] _ _ _ _ (by decide +kernel) ?_
          show G Γ m_La_readUnit (d + 1) (0, 0) Q 54 [.ref r0, .ref r1, .int x2, .int v4] [.ref r1] μ5
          refine g_invV (M' := m_Ta_pass) (b1 := 0) (b2 := 0) (As := []) (a := r1) (st := []) lk_2_70 (by decide +kernel) rfl (dk_Ta_pass d) (Nat.le_of_ble_eq_true rfl) (Or.inl ⟨9, (((((o_r1_9).mono hn1).mono hn3).mono hn4).mono hn5), rfl⟩) h ?_
          rintro _ μ6 ⟨rfl, h⟩ hn6
          show G Γ m_La_readUnit (d + 1) (0, 0) Q 57 [.ref r0, .ref r1, .int x2, .int v4] [] μ6
          refine run_ok (pc' := 60) [(.aload_n 0, 0, 0, 0), (.aload_n 1, 0, 0, 0), (.iload_n 2, 0, 0, 0)] _ _ _ _ (by decide +kernel) ?_
          show G Γ m_La_readUnit (d + 1) (0, 0) Q 60 [.ref r0, .ref r1, .int x2, .int v4] [.int x2, .ref r1, .ref r0] μ6
          refine g_invV (M' := m_La_readSum) (b1 := 0) (b2 := 0) (As := [.ref r1, .int x2]) (a := r0) (st := []) lk_2_57 (by decide +kernel) rfl (dk_La_readSum d) (Nat.le_of_ble_eq_true rfl) (Or.inl ⟨2, ((((((o_r0_2).mono hn1).mono hn3).mono hn4).mono hn5).mono hn6), rfl⟩) h ?_
          rintro _ μ7 ⟨v7, rfl, h⟩ hn7
          show G Γ m_La_readUnit (d + 1) (0, 0) Q 63 [.ref r0, .ref r1, .int x2, .int v4] [.int v7] μ7
          refine g_ifz_ne (pc' := 68) (off := 5) (by decide) (by decide +kernel) (fun hc => ?_) (fun hc => ?_)
          · replace h := h.2 hc
            show G Γ m_La_readUnit (d + 1) (0, 0) Q 68 [.ref r0, .ref r1, .int x2, .int v4] [] μ7
            refine run_ok (pc' := 74) [(.aload_n 0, 0, 0, 0), (.sipush 20000, 0, 0, 0), (.iload_n 3, 0, 0, 0), (.iadd, 0, 0, 0)] _ _ _ _ (by decide +kernel) ?_
            show G Γ m_La_readUnit (d + 1) (0, 0) Q 74 [.ref r0, .ref r1, .int x2, .int v4] [.int ((w 20000) + v4), .ref r0] μ7
            refine g_invV (M' := m_La_add) (b1 := 0) (b2 := 0) (As := [.int ((w 20000) + v4)]) (a := r0) (st := []) lk_2_38 (by decide +kernel) rfl (dk_La_add d) (Nat.le_of_ble_eq_true rfl) (Or.inl ⟨2, (((((((o_r0_2).mono hn1).mono hn3).mono hn4).mono hn5).mono hn6).mono hn7), rfl⟩) h ?_
            rintro _ μ8 ⟨rfl, h⟩ hn8
            show G Γ m_La_readUnit (d + 1) (0, 0) Q 77 [.ref r0, .ref r1, .int x2, .int v4] [] μ8
            refine run_ok (pc' := 78) [(.iconst 1, 0, 0, 0)] _ _ _ _ (by decide +kernel) ?_
            show G Γ m_La_readUnit (d + 1) (0, 0) Q 78 [.ref r0, .ref r1, .int x2, .int v4] [.int (w 1)] μ8
            exact g_retz (by decide +kernel) rfl (Or.inr rfl) h
          · replace h := h.1 hc
            show G Γ m_La_readUnit (d + 1) (0, 0) Q 66 [.ref r0, .ref r1, .int x2, .int v4] [] μ7
            refine run_ok (pc' := 67) [(.iconst 0, 0, 0, 0)] _ _ _ _ (by decide +kernel) ?_
            show G Γ m_La_readUnit (d + 1) (0, 0) Q 67 [.ref r0, .ref r1, .int x2, .int v4] [.int (w 0)] μ7
            exact g_retz (by decide +kernel) rfl (Or.inl rfl) h
        · replace h := h.1 hc
          show G Γ m_La_readUnit (d + 1) (0, 0) Q 48 [.ref r0, .ref r1, .int x2, .int v4] [] μ5
          refine run_ok (pc' := 49) [(.aload_n 1, 0, 0, 0)] _ _ _ _ (by decide +kernel) ?_
          show G Γ m_La_readUnit (d + 1) (0, 0) Q 49 [.ref r0, .ref r1, .int x2, .int v4] [.ref r1] μ5
          refine g_invV (M' := m_Ta_refuse) (b1 := 0) (b2 := 0) (As := []) (a := r1) (st := []) lk_2_50 (by decide +kernel) rfl (dk_Ta_refuse d) (Nat.le_of_ble_eq_true rfl) (Or.inl ⟨9, (((((o_r1_9).mono hn1).mono hn3).mono hn4).mono hn5), rfl⟩) h ?_
          rintro _ μ9 ⟨v9, rfl, h⟩ hn9
          show G Γ m_La_readUnit (d + 1) (0, 0) Q 52 [.ref r0, .ref r1, .int x2, .int v4] [.int v9] μ9
          exact g_retz (by decide +kernel) rfl h.1 h.2
      · replace h := h.1 hc
        show G Γ m_La_readUnit (d + 1) (0, 0) Q 34 [.ref r0, .ref r1, .int x2, .int v1] [] μ3
        refine run_ok (pc' := 35) [(.iconst 0, 0, 0, 0)] _ _ _ _ (by decide +kernel) ?_
        show G Γ m_La_readUnit (d + 1) (0, 0) Q 35 [.ref r0, .ref r1, .int x2, .int v1] [.int (w 0)] μ3
        exact g_retz (by decide +kernel) rfl (Or.inl rfl) h
    · replace h := h.1 hc
      show G Γ m_La_readUnit (d + 1) (0, 0) Q 17 [.ref r0, .ref r1, .int x2, .int v1] [] μ1
      refine run_ok (pc' := 21) [(.aload_n 0, 0, 0, 0), (.aload_n 1, 0, 0, 0), (.iload_n 2, 0, 0, 0), (.iload_n 3, 0, 0, 0)] _ _ _ _ (by decide +kernel) ?_
      show G Γ m_La_readUnit (d + 1) (0, 0) Q 21 [.ref r0, .ref r1, .int x2, .int v1] [.int v1, .int x2, .ref r1, .ref r0] μ1
      refine g_invV (M' := m_La_readNested) (b1 := 0) (b2 := 0) (As := [.ref r1, .int x2, .int v1]) (a := r0) (st := []) lk_2_76 (by decide +kernel) rfl (dk_La_readNested d) (Nat.le_of_ble_eq_true rfl) (Or.inl ⟨2, ((o_r0_2).mono hn1), rfl⟩) h ?_
      rintro _ μ10 ⟨v10, rfl, h⟩ hn10
      show G Γ m_La_readUnit (d + 1) (0, 0) Q 24 [.ref r0, .ref r1, .int x2, .int v1] [.int v10] μ10
      exact g_retz (by decide +kernel) rfl h.1 h.2
/-! FrostBox$Law readNested(LFrostBox$Tape;II)Z -/
set_option maxRecDepth 100000 in
theorem B_La_readNested_0 {Γ : XG} {d : Nat} {Q : Option Value → XM → Prop} {r0 r1 : Nat} {x2 x3 : Int32} {μ : XM} (o_r1_9 : ob μ r1 9) (o_r0_2 : ob μ r0 2) (h : ((x2 < w 6 → Call Γ m_Ta_pass d [.ref r1] μ (KV (fun μ1 => ((x3 = w 40 → Call Γ m_La_readCondition d [.ref r0, .ref r1, .int (x2 + (w 1))] μ1 (KI (fun v4 μ4 => ((v4 = w 0 → Q (some (.int (w 0))) μ4) ∧ (¬ v4 = w 0 → Call Γ m_Ta_demand d [.ref r1, .int (w 41)] μ4 (KI (fun v5 μ5 => ((v5 = w 0 → Q (some (.int (w 0))) μ5) ∧ (¬ v5 = w 0 → Q (some (.int (w 1))) μ5))))))))) ∧ (¬ x3 = w 40 → Call Γ m_La_readUnit d [.ref r0, .ref r1, .int (x2 + (w 1))] μ1 (KI (fun v2 μ2 => ((v2 = w 0 → Q (some (.int (w 0))) μ2) ∧ (¬ v2 = w 0 → Call Γ m_La_add d [.ref r0, .int (w 20033)] μ2 (KV (fun μ3 => Q (some (.int (w 1))) μ3))))))))))) ∧ (¬ x2 < w 6 → Call Γ m_Ta_refuse d [.ref r1] μ (KI (fun v6 μ6 => ((v6 = w 0 ∨ v6 = w 1) ∧ Q (some (.int v6)) μ6)))))) : G Γ m_La_readNested (d + 1) (0, 0) Q 0 [.ref r0, .ref r1, .int x2, .int x3] [] μ := by
  refine run_ok (pc' := 3) [(.iload_n 2, 0, 0, 0), (.bipush 6, 0, 0, 0)] _ _ _ _ (by decide +kernel) ?_
  show G Γ m_La_readNested (d + 1) (0, 0) Q 3 [.ref r0, .ref r1, .int x2, .int x3] [.int (w 6), .int x2] μ
  refine g_icmp_lt (pc' := 11) (off := 8) (by decide) (by decide +kernel) (fun hc => ?_) (fun hc => ?_)
  · replace h := h.1 hc
    show G Γ m_La_readNested (d + 1) (0, 0) Q 11 [.ref r0, .ref r1, .int x2, .int x3] [] μ
    refine run_ok (pc' := 12) [(.aload_n 1, 0, 0, 0)] _ _ _ _ (by decide +kernel) ?_
    show G Γ m_La_readNested (d + 1) (0, 0) Q 12 [.ref r0, .ref r1, .int x2, .int x3] [.ref r1] μ
    refine g_invV (M' := m_Ta_pass) (b1 := 0) (b2 := 0) (As := []) (a := r1) (st := []) lk_2_70 (by decide +kernel) rfl (dk_Ta_pass d) (Nat.le_of_ble_eq_true rfl) (Or.inl ⟨9, o_r1_9, rfl⟩) h ?_
    rintro _ μ1 ⟨rfl, h⟩ hn1
    show G Γ m_La_readNested (d + 1) (0, 0) Q 15 [.ref r0, .ref r1, .int x2, .int x3] [] μ1
    refine run_ok (pc' := 18) [(.iload_n 3, 0, 0, 0), (.bipush 40, 0, 0, 0)] _ _ _ _ (by decide +kernel) ?_
    show G Γ m_La_readNested (d + 1) (0, 0) Q 18 [.ref r0, .ref r1, .int x2, .int x3] [.int (w 40), .int x3] μ1
    refine g_icmp_ne (pc' := 47) (off := 29) (by decide) (by decide +kernel) (fun hc => ?_) (fun hc => ?_)
    · replace h := h.2 hc
      show G Γ m_La_readNested (d + 1) (0, 0) Q 47 [.ref r0, .ref r1, .int x2, .int x3] [] μ1
      refine run_ok (pc' := 52) [(.aload_n 0, 0, 0, 0), (.aload_n 1, 0, 0, 0), (.iload_n 2, 0, 0, 0), (.iconst 1, 0, 0, 0), (.iadd, 0, 0, 0)] _ _ _ _ (by decide +kernel) ?_
      show G Γ m_La_readNested (d + 1) (0, 0) Q 52 [.ref r0, .ref r1, .int x2, .int x3] [.int (x2 + (w 1)), .ref r1, .ref r0] μ1
      refine g_invV (M' := m_La_readUnit) (b1 := 0) (b2 := 0) (As := [.ref r1, .int (x2 + (w 1))]) (a := r0) (st := []) lk_2_73 (by decide +kernel) rfl (dk_La_readUnit d) (Nat.le_of_ble_eq_true rfl) (Or.inl ⟨2, ((o_r0_2).mono hn1), rfl⟩) h ?_
      rintro _ μ2 ⟨v2, rfl, h⟩ hn2
      show G Γ m_La_readNested (d + 1) (0, 0) Q 55 [.ref r0, .ref r1, .int x2, .int x3] [.int v2] μ2
      refine g_ifz_ne (pc' := 60) (off := 5) (by decide) (by decide +kernel) (fun hc => ?_) (fun hc => ?_)
      · replace h := h.2 hc
        show G Γ m_La_readNested (d + 1) (0, 0) Q 60 [.ref r0, .ref r1, .int x2, .int x3] [] μ2
        refine run_ok (pc' := 64) [(.aload_n 0, 0, 0, 0), (.sipush 20033, 0, 0, 0)] _ _ _ _ (by decide +kernel) ?_
        show G Γ m_La_readNested (d + 1) (0, 0) Q 64 [.ref r0, .ref r1, .int x2, .int x3] [.int (w 20033), .ref r0] μ2
        refine g_invV (M' := m_La_add) (b1 := 0) (b2 := 0) (As := [.int (w 20033)]) (a := r0) (st := []) lk_2_38 (by decide +kernel) rfl (dk_La_add d) (Nat.le_of_ble_eq_true rfl) (Or.inl ⟨2, (((o_r0_2).mono hn1).mono hn2), rfl⟩) h ?_
        rintro _ μ3 ⟨rfl, h⟩ hn3
        show G Γ m_La_readNested (d + 1) (0, 0) Q 67 [.ref r0, .ref r1, .int x2, .int x3] [] μ3
        refine run_ok (pc' := 68) [(.iconst 1, 0, 0, 0)] _ _ _ _ (by decide +kernel) ?_
        show G Γ m_La_readNested (d + 1) (0, 0) Q 68 [.ref r0, .ref r1, .int x2, .int x3] [.int (w 1)] μ3
        exact g_retz (by decide +kernel) rfl (Or.inr rfl) h
      · replace h := h.1 hc
        show G Γ m_La_readNested (d + 1) (0, 0) Q 58 [.ref r0, .ref r1, .int x2, .int x3] [] μ2
        refine run_ok (pc' := 59) [(.iconst 0, 0, 0, 0)] _ _ _ _ (by decide +kernel) ?_
        show G Γ m_La_readNested (d + 1) (0, 0) Q 59 [.ref r0, .ref r1, .int x2, .int x3] [.int (w 0)] μ2
        exact g_retz (by decide +kernel) rfl (Or.inl rfl) h
    · replace h := h.1 hc
      show G Γ m_La_readNested (d + 1) (0, 0) Q 21 [.ref r0, .ref r1, .int x2, .int x3] [] μ1
      refine run_ok (pc' := 26) [(.aload_n 0, 0, 0, 0), (.aload_n 1, 0, 0, 0), (.iload_n 2, 0, 0, 0), (.iconst 1, 0, 0, 0), (.iadd, 0, 0, 0)] _ _ _ _ (by decide +kernel) ?_
      show G Γ m_La_readNested (d + 1) (0, 0) Q 26 [.ref r0, .ref r1, .int x2, .int x3] [.int (x2 + (w 1)), .ref r1, .ref r0] μ1
      refine g_invV (M' := m_La_readCondition) (b1 := 0) (b2 := 0) (As := [.ref r1, .int (x2 + (w 1))]) (a := r0) (st := []) lk_2_64 (by decide +kernel) rfl (dk_La_readCondition d) (Nat.le_of_ble_eq_true rfl) (Or.inl ⟨2, ((o_r0_2).mono hn1), rfl⟩) h ?_
      rintro _ μ4 ⟨v4, rfl, h⟩ hn4
      show G Γ m_La_readNested (d + 1) (0, 0) Q 29 [.ref r0, .ref r1, .int x2, .int x3] [.int v4] μ4
      refine g_ifz_eq (pc' := 45) (off := 16) (by decide) (by decide +kernel) (fun hc => ?_) (fun hc => ?_)
      · replace h := h.1 hc
        show G Γ m_La_readNested (d + 1) (0, 0) Q 45 [.ref r0, .ref r1, .int x2, .int x3] [] μ4
        refine run_ok (pc' := 46) [(.iconst 0, 0, 0, 0)] _ _ _ _ (by decide +kernel) ?_
        show G Γ m_La_readNested (d + 1) (0, 0) Q 46 [.ref r0, .ref r1, .int x2, .int x3] [.int (w 0)] μ4
        exact g_retz (by decide +kernel) rfl (Or.inl rfl) h
      · replace h := h.2 hc
        show G Γ m_La_readNested (d + 1) (0, 0) Q 32 [.ref r0, .ref r1, .int x2, .int x3] [] μ4
        refine run_ok (pc' := 35) [(.aload_n 1, 0, 0, 0), (.bipush 41, 0, 0, 0)] _ _ _ _ (by decide +kernel) ?_
        show G Γ m_La_readNested (d + 1) (0, 0) Q 35 [.ref r0, .ref r1, .int x2, .int x3] [.int (w 41), .ref r1] μ4
        refine g_invV (M' := m_Ta_demand) (b1 := 0) (b2 := 0) (As := [.int (w 41)]) (a := r1) (st := []) lk_2_46 (by decide +kernel) rfl (dk_Ta_demand d) (Nat.le_of_ble_eq_true rfl) (Or.inl ⟨9, (((o_r1_9).mono hn1).mono hn4), rfl⟩) h ?_
        rintro _ μ5 ⟨v5, rfl, h⟩ hn5
        show G Γ m_La_readNested (d + 1) (0, 0) Q 38 [.ref r0, .ref r1, .int x2, .int x3] [.int v5] μ5
        refine g_ifz_eq (pc' := 45) (off := 7) (by decide) (by decide +kernel) (fun hc => ?_) (fun hc => ?_)
        · replace h := h.1 hc
          show G Γ m_La_readNested (d + 1) (0, 0) Q 45 [.ref r0, .ref r1, .int x2, .int x3] [] μ5
          refine run_ok (pc' := 46) [(.iconst 0, 0, 0, 0)] _ _ _ _ (by decide +kernel) ?_
          show G Γ m_La_readNested (d + 1) (0, 0) Q 46 [.ref r0, .ref r1, .int x2, .int x3] [.int (w 0)] μ5
          exact g_retz (by decide +kernel) rfl (Or.inl rfl) h
        · replace h := h.2 hc
          show G Γ m_La_readNested (d + 1) (0, 0) Q 41 [.ref r0, .ref r1, .int x2, .int x3] [] μ5
          refine run_ok (pc' := 46) [(.iconst 1, 0, 0, 0), (.goto 4, 0, 0, 0)] _ _ _ _ (by decide +kernel) ?_
          show G Γ m_La_readNested (d + 1) (0, 0) Q 46 [.ref r0, .ref r1, .int x2, .int x3] [.int (w 1)] μ5
          exact g_retz (by decide +kernel) rfl (Or.inr rfl) h
  · replace h := h.2 hc
    show G Γ m_La_readNested (d + 1) (0, 0) Q 6 [.ref r0, .ref r1, .int x2, .int x3] [] μ
    refine run_ok (pc' := 7) [(.aload_n 1, 0, 0, 0)] _ _ _ _ (by decide +kernel) ?_
    show G Γ m_La_readNested (d + 1) (0, 0) Q 7 [.ref r0, .ref r1, .int x2, .int x3] [.ref r1] μ
    refine g_invV (M' := m_Ta_refuse) (b1 := 0) (b2 := 0) (As := []) (a := r1) (st := []) lk_2_50 (by decide +kernel) rfl (dk_Ta_refuse d) (Nat.le_of_ble_eq_true rfl) (Or.inl ⟨9, o_r1_9, rfl⟩) h ?_
    rintro _ μ6 ⟨v6, rfl, h⟩ hn6
    show G Γ m_La_readNested (d + 1) (0, 0) Q 10 [.ref r0, .ref r1, .int x2, .int x3] [.int v6] μ6
    exact g_retz (by decide +kernel) rfl h.1 h.2
/-! FrostBox$Law isComparison(I)Z -/
set_option maxRecDepth 100000 in
theorem B_La_isComparison_0 {Γ : XG} {d : Nat} {Q : Option Value → XM → Prop} {x0 : Int32} {μ : XM}  (h : ((x0 = w 61 → Q (some (.int (w 1))) μ) ∧ (¬ x0 = w 61 → ((x0 = w 60 → Q (some (.int (w 1))) μ) ∧ (¬ x0 = w 60 → ((x0 = w 62 → Q (some (.int (w 1))) μ) ∧ (¬ x0 = w 62 → Q (some (.int (w 0))) μ))))))) : G Γ m_La_isComparison (d + 1) (0, 0) Q 0 [.int x0] [] μ := by
  refine run_ok (pc' := 3) [(.iload_n 0, 0, 0, 0), (.bipush 61, 0, 0, 0)] _ _ _ _ (by decide +kernel) ?_
  show G Γ m_La_isComparison (d + 1) (0, 0) Q 3 [.int x0] [.int (w 61), .int x0] μ
  refine g_icmp_eq (pc' := 18) (off := 15) (by decide) (by decide +kernel) (fun hc => ?_) (fun hc => ?_)
  · replace h := h.1 hc
    show G Γ m_La_isComparison (d + 1) (0, 0) Q 18 [.int x0] [] μ
    refine run_ok (pc' := 23) [(.iconst 1, 0, 0, 0), (.goto 4, 0, 0, 0)] _ _ _ _ (by decide +kernel) ?_
    show G Γ m_La_isComparison (d + 1) (0, 0) Q 23 [.int x0] [.int (w 1)] μ
    exact g_retz (by decide +kernel) rfl (Or.inr rfl) h
  · replace h := h.2 hc
    show G Γ m_La_isComparison (d + 1) (0, 0) Q 6 [.int x0] [] μ
    refine run_ok (pc' := 9) [(.iload_n 0, 0, 0, 0), (.bipush 60, 0, 0, 0)] _ _ _ _ (by decide +kernel) ?_
    show G Γ m_La_isComparison (d + 1) (0, 0) Q 9 [.int x0] [.int (w 60), .int x0] μ
    refine g_icmp_eq (pc' := 18) (off := 9) (by decide) (by decide +kernel) (fun hc => ?_) (fun hc => ?_)
    · replace h := h.1 hc
      show G Γ m_La_isComparison (d + 1) (0, 0) Q 18 [.int x0] [] μ
      refine run_ok (pc' := 23) [(.iconst 1, 0, 0, 0), (.goto 4, 0, 0, 0)] _ _ _ _ (by decide +kernel) ?_
      show G Γ m_La_isComparison (d + 1) (0, 0) Q 23 [.int x0] [.int (w 1)] μ
      exact g_retz (by decide +kernel) rfl (Or.inr rfl) h
    · replace h := h.2 hc
      show G Γ m_La_isComparison (d + 1) (0, 0) Q 12 [.int x0] [] μ
      refine run_ok (pc' := 15) [(.iload_n 0, 0, 0, 0), (.bipush 62, 0, 0, 0)] _ _ _ _ (by decide +kernel) ?_
      show G Γ m_La_isComparison (d + 1) (0, 0) Q 15 [.int x0] [.int (w 62), .int x0] μ
      refine g_icmp_ne (pc' := 22) (off := 7) (by decide) (by decide +kernel) (fun hc => ?_) (fun hc => ?_)
      · replace h := h.2 hc
        show G Γ m_La_isComparison (d + 1) (0, 0) Q 22 [.int x0] [] μ
        refine run_ok (pc' := 23) [(.iconst 0, 0, 0, 0)] _ _ _ _ (by decide +kernel) ?_
        show G Γ m_La_isComparison (d + 1) (0, 0) Q 23 [.int x0] [.int (w 0)] μ
        exact g_retz (by decide +kernel) rfl (Or.inl rfl) h
      · replace h := h.1 hc
        show G Γ m_La_isComparison (d + 1) (0, 0) Q 18 [.int x0] [] μ
        refine run_ok (pc' := 23) [(.iconst 1, 0, 0, 0), (.goto 4, 0, 0, 0)] _ _ _ _ (by decide +kernel) ?_
        show G Γ m_La_isComparison (d + 1) (0, 0) Q 23 [.int x0] [.int (w 1)] μ
        exact g_retz (by decide +kernel) rfl (Or.inr rfl) h
/-! FrostBox$Law readSum(LFrostBox$Tape;I)Z -/
set_option maxRecDepth 100000 in
theorem lk_2_80 : LkV 2 80 m_La_readTerm 2 := ⟨lc_La_readTerm, lwG_in (List.mem_of_getElem? (i := 577) rfl) rfl, lwG_in (List.mem_of_getElem? (i := 579) rfl) rfl, lwG_in (List.mem_of_getElem? (i := 6) rfl) rfl⟩
set_option maxRecDepth 100000 in
theorem B_La_readSum_0 {Γ : XG} {d : Nat} {Q : Option Value → XM → Prop} {r0 r1 : Nat} {x2 : Int32} {μ : XM} (o_r0_2 : ob μ r0 2) (o_r1_9 : ob μ r1 9) (h : Call Γ m_La_readTerm d [.ref r0, .ref r1, .int x2] μ (KI (fun v1 μ1 => ((v1 = w 0 → Q (some (.int (w 0))) μ1) ∧ (¬ v1 = w 0 → Call Γ m_Ta_ahead d [.ref r1] μ1 (KI (fun v2 μ2 => G Γ m_La_readSum (d + 1) (0, 0) Q 19 [.ref r0, .ref r1, .int x2, .int v2, .int (w 0)] [] μ2))))))) : G Γ m_La_readSum (d + 1) (0, 0) Q 0 [.ref r0, .ref r1, .int x2] [] μ := by
  refine run_ok (pc' := 3) [(.aload_n 0, 0, 0, 0), (.aload_n 1, 0, 0, 0), (.iload_n 2, 0, 0, 0)] _ _ _ _ (by decide +kernel) ?_
  show G Γ m_La_readSum (d + 1) (0, 0) Q 3 [.ref r0, .ref r1, .int x2] [.int x2, .ref r1, .ref r0] μ
  refine g_invV (M' := m_La_readTerm) (b1 := 0) (b2 := 0) (As := [.ref r1, .int x2]) (a := r0) (st := []) lk_2_80 (by decide +kernel) rfl (dk_La_readTerm d) (Nat.le_of_ble_eq_true rfl) (Or.inl ⟨2, o_r0_2, rfl⟩) h ?_
  rintro _ μ1 ⟨v1, rfl, h⟩ hn1
  show G Γ m_La_readSum (d + 1) (0, 0) Q 6 [.ref r0, .ref r1, .int x2] [.int v1] μ1
  refine g_ifz_ne (pc' := 11) (off := 5) (by decide) (by decide +kernel) (fun hc => ?_) (fun hc => ?_)
  · replace h := h.2 hc
    show G Γ m_La_readSum (d + 1) (0, 0) Q 11 [.ref r0, .ref r1, .int x2] [] μ1
    refine run_ok (pc' := 12) [(.aload_n 1, 0, 0, 0)] _ _ _ _ (by decide +kernel) ?_
    show G Γ m_La_readSum (d + 1) (0, 0) Q 12 [.ref r0, .ref r1, .int x2] [.ref r1] μ1
    refine g_invV (M' := m_Ta_ahead) (b1 := 0) (b2 := 0) (As := []) (a := r1) (st := []) lk_2_42 (by decide +kernel) rfl (dk_Ta_ahead d) (Nat.le_of_ble_eq_true rfl) (Or.inl ⟨9, ((o_r1_9).mono hn1), rfl⟩) h ?_
    rintro _ μ2 ⟨v2, rfl, h⟩ hn2
    show G Γ m_La_readSum (d + 1) (0, 0) Q 15 [.ref r0, .ref r1, .int x2] [.int v2] μ2
    refine run_ok (pc' := 19) [(.istore_n 3, 0, 0, 0), (.iconst 0, 0, 0, 0), (.istore 4, 0, 0, 0)] _ _ _ _ (by decide +kernel) ?_
    show G Γ m_La_readSum (d + 1) (0, 0) Q 19 [.ref r0, .ref r1, .int x2, .int v2, .int (w 0)] [] μ2
    exact h
  · replace h := h.1 hc
    show G Γ m_La_readSum (d + 1) (0, 0) Q 9 [.ref r0, .ref r1, .int x2] [] μ1
    refine run_ok (pc' := 10) [(.iconst 0, 0, 0, 0)] _ _ _ _ (by decide +kernel) ?_
    show G Γ m_La_readSum (d + 1) (0, 0) Q 10 [.ref r0, .ref r1, .int x2] [.int (w 0)] μ1
    exact g_retz (by decide +kernel) rfl (Or.inl rfl) h
set_option maxRecDepth 100000 in
theorem B_La_readSum_19 {Γ : XG} {d : Nat} {Q : Option Value → XM → Prop} {r0 r1 : Nat} {x2 x3 x4 : Int32} {μ : XM} (o_r1_9 : ob μ r1 9) (o_r0_2 : ob μ r0 2) (h : ((x4 < w 240 → ((x3 = w 43 → Call Γ m_Ta_pass d [.ref r1] μ (KV (fun μ1 => Call Γ m_La_readTerm d [.ref r0, .ref r1, .int x2] μ1 (KI (fun v2 μ2 => ((v2 = w 0 → Q (some (.int (w 0))) μ2) ∧ (¬ v2 = w 0 → Call Γ m_La_add d [.ref r0, .int ((w 20000) + x3)] μ2 (KV (fun μ3 => Call Γ m_Ta_ahead d [.ref r1] μ3 (KI (fun v4 μ4 => G Γ m_La_readSum (d + 1) (0, 0) Q 19 [.ref r0, .ref r1, .int x2, .int v4, .int (x4 + w 1)] [] μ4))))))))))) ∧ (¬ x3 = w 43 → ((x3 = w 45 → Call Γ m_Ta_pass d [.ref r1] μ (KV (fun μ5 => Call Γ m_La_readTerm d [.ref r0, .ref r1, .int x2] μ5 (KI (fun v6 μ6 => ((v6 = w 0 → Q (some (.int (w 0))) μ6) ∧ (¬ v6 = w 0 → Call Γ m_La_add d [.ref r0, .int ((w 20000) + x3)] μ6 (KV (fun μ7 => Call Γ m_Ta_ahead d [.ref r1] μ7 (KI (fun v8 μ8 => G Γ m_La_readSum (d + 1) (0, 0) Q 19 [.ref r0, .ref r1, .int x2, .int v8, .int (x4 + w 1)] [] μ8))))))))))) ∧ (¬ x3 = w 45 → Q (some (.int (w 1))) μ))))) ∧ (¬ x4 < w 240 → Q (some (.int (w 1))) μ))) : G Γ m_La_readSum (d + 1) (0, 0) Q 19 [.ref r0, .ref r1, .int x2, .int x3, .int x4] [] μ := by
  refine run_ok (pc' := 24) [(.iload 4, 0, 0, 0), (.sipush 240, 0, 0, 0)] _ _ _ _ (by decide +kernel) ?_
  show G Γ m_La_readSum (d + 1) (0, 0) Q 24 [.ref r0, .ref r1, .int x2, .int x3, .int x4] [.int (w 240), .int x4] μ
  refine g_icmp_ge (pc' := 74) (off := 50) (by decide) (by decide +kernel) (fun hc => ?_) (fun hc => ?_)
  · replace h := h.2 hc
    show G Γ m_La_readSum (d + 1) (0, 0) Q 74 [.ref r0, .ref r1, .int x2, .int x3, .int x4] [] μ
    refine run_ok (pc' := 75) [(.iconst 1, 0, 0, 0)] _ _ _ _ (by decide +kernel) ?_
    show G Γ m_La_readSum (d + 1) (0, 0) Q 75 [.ref r0, .ref r1, .int x2, .int x3, .int x4] [.int (w 1)] μ
    exact g_retz (by decide +kernel) rfl (Or.inr rfl) h
  · replace h := h.1 hc
    show G Γ m_La_readSum (d + 1) (0, 0) Q 27 [.ref r0, .ref r1, .int x2, .int x3, .int x4] [] μ
    refine run_ok (pc' := 30) [(.iload_n 3, 0, 0, 0), (.bipush 43, 0, 0, 0)] _ _ _ _ (by decide +kernel) ?_
    show G Γ m_La_readSum (d + 1) (0, 0) Q 30 [.ref r0, .ref r1, .int x2, .int x3, .int x4] [.int (w 43), .int x3] μ
    refine g_icmp_eq (pc' := 39) (off := 9) (by decide) (by decide +kernel) (fun hc => ?_) (fun hc => ?_)
    · replace h := h.1 hc
      show G Γ m_La_readSum (d + 1) (0, 0) Q 39 [.ref r0, .ref r1, .int x2, .int x3, .int x4] [] μ
      refine run_ok (pc' := 40) [(.aload_n 1, 0, 0, 0)] _ _ _ _ (by decide +kernel) ?_
      show G Γ m_La_readSum (d + 1) (0, 0) Q 40 [.ref r0, .ref r1, .int x2, .int x3, .int x4] [.ref r1] μ
      refine g_invV (M' := m_Ta_pass) (b1 := 0) (b2 := 0) (As := []) (a := r1) (st := []) lk_2_70 (by decide +kernel) rfl (dk_Ta_pass d) (Nat.le_of_ble_eq_true rfl) (Or.inl ⟨9, o_r1_9, rfl⟩) h ?_
      rintro _ μ1 ⟨rfl, h⟩ hn1
      show G Γ m_La_readSum (d + 1) (0, 0) Q 43 [.ref r0, .ref r1, .int x2, .int x3, .int x4] [] μ1
      refine run_ok (pc' := 46) [(.aload_n 0, 0, 0, 0), (.aload_n 1, 0, 0, 0), (.iload_n 2, 0, 0, 0)] _ _ _ _ (by decide +kernel) ?_
      show G Γ m_La_readSum (d + 1) (0, 0) Q 46 [.ref r0, .ref r1, .int x2, .int x3, .int x4] [.int x2, .ref r1, .ref r0] μ1
      refine g_invV (M' := m_La_readTerm) (b1 := 0) (b2 := 0) (As := [.ref r1, .int x2]) (a := r0) (st := []) lk_2_80 (by decide +kernel) rfl (dk_La_readTerm d) (Nat.le_of_ble_eq_true rfl) (Or.inl ⟨2, ((o_r0_2).mono hn1), rfl⟩) h ?_
      rintro _ μ2 ⟨v2, rfl, h⟩ hn2
      show G Γ m_La_readSum (d + 1) (0, 0) Q 49 [.ref r0, .ref r1, .int x2, .int x3, .int x4] [.int v2] μ2
      refine g_ifz_ne (pc' := 54) (off := 5) (by decide) (by decide +kernel) (fun hc => ?_) (fun hc => ?_)
      · replace h := h.2 hc
        show G Γ m_La_readSum (d + 1) (0, 0) Q 54 [.ref r0, .ref r1, .int x2, .int x3, .int x4] [] μ2
        refine run_ok (pc' := 60) [(.aload_n 0, 0, 0, 0), (.sipush 20000, 0, 0, 0), (.iload_n 3, 0, 0, 0), (.iadd, 0, 0, 0)] _ _ _ _ (by decide +kernel) ?_
        show G Γ m_La_readSum (d + 1) (0, 0) Q 60 [.ref r0, .ref r1, .int x2, .int x3, .int x4] [.int ((w 20000) + x3), .ref r0] μ2
        refine g_invV (M' := m_La_add) (b1 := 0) (b2 := 0) (As := [.int ((w 20000) + x3)]) (a := r0) (st := []) lk_2_38 (by decide +kernel) rfl (dk_La_add d) (Nat.le_of_ble_eq_true rfl) (Or.inl ⟨2, (((o_r0_2).mono hn1).mono hn2), rfl⟩) h ?_
        rintro _ μ3 ⟨rfl, h⟩ hn3
        show G Γ m_La_readSum (d + 1) (0, 0) Q 63 [.ref r0, .ref r1, .int x2, .int x3, .int x4] [] μ3
        refine run_ok (pc' := 64) [(.aload_n 1, 0, 0, 0)] _ _ _ _ (by decide +kernel) ?_
        show G Γ m_La_readSum (d + 1) (0, 0) Q 64 [.ref r0, .ref r1, .int x2, .int x3, .int x4] [.ref r1] μ3
        refine g_invV (M' := m_Ta_ahead) (b1 := 0) (b2 := 0) (As := []) (a := r1) (st := []) lk_2_42 (by decide +kernel) rfl (dk_Ta_ahead d) (Nat.le_of_ble_eq_true rfl) (Or.inl ⟨9, ((((o_r1_9).mono hn1).mono hn2).mono hn3), rfl⟩) h ?_
        rintro _ μ4 ⟨v4, rfl, h⟩ hn4
        show G Γ m_La_readSum (d + 1) (0, 0) Q 67 [.ref r0, .ref r1, .int x2, .int x3, .int x4] [.int v4] μ4
        refine run_ok (pc' := 19) [(.istore_n 3, 0, 0, 0), (.iinc 4 1, 0, 0, 0), (.goto (-52), 0, 0, 0)] _ _ _ _ (by decide +kernel) ?_
        show G Γ m_La_readSum (d + 1) (0, 0) Q 19 [.ref r0, .ref r1, .int x2, .int v4, .int (x4 + w 1)] [] μ4
        exact h
      · replace h := h.1 hc
        show G Γ m_La_readSum (d + 1) (0, 0) Q 52 [.ref r0, .ref r1, .int x2, .int x3, .int x4] [] μ2
        refine run_ok (pc' := 53) [(.iconst 0, 0, 0, 0)] _ _ _ _ (by decide +kernel) ?_
        show G Γ m_La_readSum (d + 1) (0, 0) Q 53 [.ref r0, .ref r1, .int x2, .int x3, .int x4] [.int (w 0)] μ2
        exact g_retz (by decide +kernel) rfl (Or.inl rfl) h
    · replace h := h.2 hc
      show G Γ m_La_readSum (d + 1) (0, 0) Q 33 [.ref r0, .ref r1, .int x2, .int x3, .int x4] [] μ
      refine run_ok (pc' := 36) [(.iload_n 3, 0, 0, 0), (.bipush 45, 0, 0, 0)] _ _ _ _ (by decide +kernel) ?_
      show G Γ m_La_readSum (d + 1) (0, 0) Q 36 [.ref r0, .ref r1, .int x2, .int x3, .int x4] [.int (w 45), .int x3] μ
      refine g_icmp_ne (pc' := 74) (off := 38) (by decide) (by decide +kernel) (fun hc => ?_) (fun hc => ?_)
      · replace h := h.2 hc
        show G Γ m_La_readSum (d + 1) (0, 0) Q 74 [.ref r0, .ref r1, .int x2, .int x3, .int x4] [] μ
        refine run_ok (pc' := 75) [(.iconst 1, 0, 0, 0)] _ _ _ _ (by decide +kernel) ?_
        show G Γ m_La_readSum (d + 1) (0, 0) Q 75 [.ref r0, .ref r1, .int x2, .int x3, .int x4] [.int (w 1)] μ
        exact g_retz (by decide +kernel) rfl (Or.inr rfl) h
      · replace h := h.1 hc
        show G Γ m_La_readSum (d + 1) (0, 0) Q 39 [.ref r0, .ref r1, .int x2, .int x3, .int x4] [] μ
        refine run_ok (pc' := 40) [(.aload_n 1, 0, 0, 0)] _ _ _ _ (by decide +kernel) ?_
        show G Γ m_La_readSum (d + 1) (0, 0) Q 40 [.ref r0, .ref r1, .int x2, .int x3, .int x4] [.ref r1] μ
        refine g_invV (M' := m_Ta_pass) (b1 := 0) (b2 := 0) (As := []) (a := r1) (st := []) lk_2_70 (by decide +kernel) rfl (dk_Ta_pass d) (Nat.le_of_ble_eq_true rfl) (Or.inl ⟨9, o_r1_9, rfl⟩) h ?_
        rintro _ μ5 ⟨rfl, h⟩ hn5
        show G Γ m_La_readSum (d + 1) (0, 0) Q 43 [.ref r0, .ref r1, .int x2, .int x3, .int x4] [] μ5
        refine run_ok (pc' := 46) [(.aload_n 0, 0, 0, 0), (.aload_n 1, 0, 0, 0), (.iload_n 2, 0, 0, 0)] _ _ _ _ (by decide +kernel) ?_
        show G Γ m_La_readSum (d + 1) (0, 0) Q 46 [.ref r0, .ref r1, .int x2, .int x3, .int x4] [.int x2, .ref r1, .ref r0] μ5
        refine g_invV (M' := m_La_readTerm) (b1 := 0) (b2 := 0) (As := [.ref r1, .int x2]) (a := r0) (st := []) lk_2_80 (by decide +kernel) rfl (dk_La_readTerm d) (Nat.le_of_ble_eq_true rfl) (Or.inl ⟨2, ((o_r0_2).mono hn5), rfl⟩) h ?_
        rintro _ μ6 ⟨v6, rfl, h⟩ hn6
        show G Γ m_La_readSum (d + 1) (0, 0) Q 49 [.ref r0, .ref r1, .int x2, .int x3, .int x4] [.int v6] μ6
        refine g_ifz_ne (pc' := 54) (off := 5) (by decide) (by decide +kernel) (fun hc => ?_) (fun hc => ?_)
        · replace h := h.2 hc
          show G Γ m_La_readSum (d + 1) (0, 0) Q 54 [.ref r0, .ref r1, .int x2, .int x3, .int x4] [] μ6
          refine run_ok (pc' := 60) [(.aload_n 0, 0, 0, 0), (.sipush 20000, 0, 0, 0), (.iload_n 3, 0, 0, 0), (.iadd, 0, 0, 0)] _ _ _ _ (by decide +kernel) ?_
          show G Γ m_La_readSum (d + 1) (0, 0) Q 60 [.ref r0, .ref r1, .int x2, .int x3, .int x4] [.int ((w 20000) + x3), .ref r0] μ6
          refine g_invV (M' := m_La_add) (b1 := 0) (b2 := 0) (As := [.int ((w 20000) + x3)]) (a := r0) (st := []) lk_2_38 (by decide +kernel) rfl (dk_La_add d) (Nat.le_of_ble_eq_true rfl) (Or.inl ⟨2, (((o_r0_2).mono hn5).mono hn6), rfl⟩) h ?_
          rintro _ μ7 ⟨rfl, h⟩ hn7
          show G Γ m_La_readSum (d + 1) (0, 0) Q 63 [.ref r0, .ref r1, .int x2, .int x3, .int x4] [] μ7
          refine run_ok (pc' := 64) [(.aload_n 1, 0, 0, 0)] _ _ _ _ (by decide +kernel) ?_
          show G Γ m_La_readSum (d + 1) (0, 0) Q 64 [.ref r0, .ref r1, .int x2, .int x3, .int x4] [.ref r1] μ7
          refine g_invV (M' := m_Ta_ahead) (b1 := 0) (b2 := 0) (As := []) (a := r1) (st := []) lk_2_42 (by decide +kernel) rfl (dk_Ta_ahead d) (Nat.le_of_ble_eq_true rfl) (Or.inl ⟨9, ((((o_r1_9).mono hn5).mono hn6).mono hn7), rfl⟩) h ?_
          rintro _ μ8 ⟨v8, rfl, h⟩ hn8
          show G Γ m_La_readSum (d + 1) (0, 0) Q 67 [.ref r0, .ref r1, .int x2, .int x3, .int x4] [.int v8] μ8
          refine run_ok (pc' := 19) [(.istore_n 3, 0, 0, 0), (.iinc 4 1, 0, 0, 0), (.goto (-52), 0, 0, 0)] _ _ _ _ (by decide +kernel) ?_
          show G Γ m_La_readSum (d + 1) (0, 0) Q 19 [.ref r0, .ref r1, .int x2, .int v8, .int (x4 + w 1)] [] μ8
          exact h
        · replace h := h.1 hc
          show G Γ m_La_readSum (d + 1) (0, 0) Q 52 [.ref r0, .ref r1, .int x2, .int x3, .int x4] [] μ6
          refine run_ok (pc' := 53) [(.iconst 0, 0, 0, 0)] _ _ _ _ (by decide +kernel) ?_
          show G Γ m_La_readSum (d + 1) (0, 0) Q 53 [.ref r0, .ref r1, .int x2, .int x3, .int x4] [.int (w 0)] μ6
          exact g_retz (by decide +kernel) rfl (Or.inl rfl) h
/-! FrostBox$Law readTerm(LFrostBox$Tape;I)Z -/
set_option maxRecDepth 100000 in
theorem lk_2_83 : LkV 2 83 m_La_readAtom 2 := ⟨lc_La_readAtom, lwG_in (List.mem_of_getElem? (i := 581) rfl) rfl, lwG_in (List.mem_of_getElem? (i := 583) rfl) rfl, lwG_in (List.mem_of_getElem? (i := 7) rfl) rfl⟩
set_option maxRecDepth 100000 in
theorem B_La_readTerm_0 {Γ : XG} {d : Nat} {Q : Option Value → XM → Prop} {r0 r1 : Nat} {x2 : Int32} {μ : XM} (o_r0_2 : ob μ r0 2) (o_r1_9 : ob μ r1 9) (h : Call Γ m_La_readAtom d [.ref r0, .ref r1, .int x2] μ (KI (fun v1 μ1 => ((v1 = w 0 → Q (some (.int (w 0))) μ1) ∧ (¬ v1 = w 0 → Call Γ m_Ta_ahead d [.ref r1] μ1 (KI (fun v2 μ2 => G Γ m_La_readTerm (d + 1) (0, 0) Q 19 [.ref r0, .ref r1, .int x2, .int v2, .int (w 0)] [] μ2))))))) : G Γ m_La_readTerm (d + 1) (0, 0) Q 0 [.ref r0, .ref r1, .int x2] [] μ := by
  refine run_ok (pc' := 3) [(.aload_n 0, 0, 0, 0), (.aload_n 1, 0, 0, 0), (.iload_n 2, 0, 0, 0)] _ _ _ _ (by decide +kernel) ?_
  show G Γ m_La_readTerm (d + 1) (0, 0) Q 3 [.ref r0, .ref r1, .int x2] [.int x2, .ref r1, .ref r0] μ
  refine g_invV (M' := m_La_readAtom) (b1 := 0) (b2 := 0) (As := [.ref r1, .int x2]) (a := r0) (st := []) lk_2_83 (by decide +kernel) rfl (dk_La_readAtom d) (Nat.le_of_ble_eq_true rfl) (Or.inl ⟨2, o_r0_2, rfl⟩) h ?_
  rintro _ μ1 ⟨v1, rfl, h⟩ hn1
  show G Γ m_La_readTerm (d + 1) (0, 0) Q 6 [.ref r0, .ref r1, .int x2] [.int v1] μ1
  refine g_ifz_ne (pc' := 11) (off := 5) (by decide) (by decide +kernel) (fun hc => ?_) (fun hc => ?_)
  · replace h := h.2 hc
    show G Γ m_La_readTerm (d + 1) (0, 0) Q 11 [.ref r0, .ref r1, .int x2] [] μ1
    refine run_ok (pc' := 12) [(.aload_n 1, 0, 0, 0)] _ _ _ _ (by decide +kernel) ?_
    show G Γ m_La_readTerm (d + 1) (0, 0) Q 12 [.ref r0, .ref r1, .int x2] [.ref r1] μ1
    refine g_invV (M' := m_Ta_ahead) (b1 := 0) (b2 := 0) (As := []) (a := r1) (st := []) lk_2_42 (by decide +kernel) rfl (dk_Ta_ahead d) (Nat.le_of_ble_eq_true rfl) (Or.inl ⟨9, ((o_r1_9).mono hn1), rfl⟩) h ?_
    rintro _ μ2 ⟨v2, rfl, h⟩ hn2
    show G Γ m_La_readTerm (d + 1) (0, 0) Q 15 [.ref r0, .ref r1, .int x2] [.int v2] μ2
    refine run_ok (pc' := 19) [(.istore_n 3, 0, 0, 0), (.iconst 0, 0, 0, 0), (.istore 4, 0, 0, 0)] _ _ _ _ (by decide +kernel) ?_
    show G Γ m_La_readTerm (d + 1) (0, 0) Q 19 [.ref r0, .ref r1, .int x2, .int v2, .int (w 0)] [] μ2
    exact h
  · replace h := h.1 hc
    show G Γ m_La_readTerm (d + 1) (0, 0) Q 9 [.ref r0, .ref r1, .int x2] [] μ1
    refine run_ok (pc' := 10) [(.iconst 0, 0, 0, 0)] _ _ _ _ (by decide +kernel) ?_
    show G Γ m_La_readTerm (d + 1) (0, 0) Q 10 [.ref r0, .ref r1, .int x2] [.int (w 0)] μ1
    exact g_retz (by decide +kernel) rfl (Or.inl rfl) h
set_option maxRecDepth 100000 in
theorem B_La_readTerm_19 {Γ : XG} {d : Nat} {Q : Option Value → XM → Prop} {r0 r1 : Nat} {x2 x3 x4 : Int32} {μ : XM} (o_r1_9 : ob μ r1 9) (o_r0_2 : ob μ r0 2) (h : ((x4 < w 240 → ((x3 = w 42 → Call Γ m_Ta_pass d [.ref r1] μ (KV (fun μ1 => Call Γ m_La_readAtom d [.ref r0, .ref r1, .int x2] μ1 (KI (fun v2 μ2 => ((v2 = w 0 → Q (some (.int (w 0))) μ2) ∧ (¬ v2 = w 0 → Call Γ m_La_add d [.ref r0, .int ((w 20000) + x3)] μ2 (KV (fun μ3 => Call Γ m_Ta_ahead d [.ref r1] μ3 (KI (fun v4 μ4 => G Γ m_La_readTerm (d + 1) (0, 0) Q 19 [.ref r0, .ref r1, .int x2, .int v4, .int (x4 + w 1)] [] μ4))))))))))) ∧ (¬ x3 = w 42 → ((x3 = w 47 → Call Γ m_Ta_pass d [.ref r1] μ (KV (fun μ5 => Call Γ m_La_readAtom d [.ref r0, .ref r1, .int x2] μ5 (KI (fun v6 μ6 => ((v6 = w 0 → Q (some (.int (w 0))) μ6) ∧ (¬ v6 = w 0 → Call Γ m_La_add d [.ref r0, .int ((w 20000) + x3)] μ6 (KV (fun μ7 => Call Γ m_Ta_ahead d [.ref r1] μ7 (KI (fun v8 μ8 => G Γ m_La_readTerm (d + 1) (0, 0) Q 19 [.ref r0, .ref r1, .int x2, .int v8, .int (x4 + w 1)] [] μ8))))))))))) ∧ (¬ x3 = w 47 → Q (some (.int (w 1))) μ))))) ∧ (¬ x4 < w 240 → Q (some (.int (w 1))) μ))) : G Γ m_La_readTerm (d + 1) (0, 0) Q 19 [.ref r0, .ref r1, .int x2, .int x3, .int x4] [] μ := by
  refine run_ok (pc' := 24) [(.iload 4, 0, 0, 0), (.sipush 240, 0, 0, 0)] _ _ _ _ (by decide +kernel) ?_
  show G Γ m_La_readTerm (d + 1) (0, 0) Q 24 [.ref r0, .ref r1, .int x2, .int x3, .int x4] [.int (w 240), .int x4] μ
  refine g_icmp_ge (pc' := 74) (off := 50) (by decide) (by decide +kernel) (fun hc => ?_) (fun hc => ?_)
  · replace h := h.2 hc
    show G Γ m_La_readTerm (d + 1) (0, 0) Q 74 [.ref r0, .ref r1, .int x2, .int x3, .int x4] [] μ
    refine run_ok (pc' := 75) [(.iconst 1, 0, 0, 0)] _ _ _ _ (by decide +kernel) ?_
    show G Γ m_La_readTerm (d + 1) (0, 0) Q 75 [.ref r0, .ref r1, .int x2, .int x3, .int x4] [.int (w 1)] μ
    exact g_retz (by decide +kernel) rfl (Or.inr rfl) h
  · replace h := h.1 hc
    show G Γ m_La_readTerm (d + 1) (0, 0) Q 27 [.ref r0, .ref r1, .int x2, .int x3, .int x4] [] μ
    refine run_ok (pc' := 30) [(.iload_n 3, 0, 0, 0), (.bipush 42, 0, 0, 0)] _ _ _ _ (by decide +kernel) ?_
    show G Γ m_La_readTerm (d + 1) (0, 0) Q 30 [.ref r0, .ref r1, .int x2, .int x3, .int x4] [.int (w 42), .int x3] μ
    refine g_icmp_eq (pc' := 39) (off := 9) (by decide) (by decide +kernel) (fun hc => ?_) (fun hc => ?_)
    · replace h := h.1 hc
      show G Γ m_La_readTerm (d + 1) (0, 0) Q 39 [.ref r0, .ref r1, .int x2, .int x3, .int x4] [] μ
      refine run_ok (pc' := 40) [(.aload_n 1, 0, 0, 0)] _ _ _ _ (by decide +kernel) ?_
      show G Γ m_La_readTerm (d + 1) (0, 0) Q 40 [.ref r0, .ref r1, .int x2, .int x3, .int x4] [.ref r1] μ
      refine g_invV (M' := m_Ta_pass) (b1 := 0) (b2 := 0) (As := []) (a := r1) (st := []) lk_2_70 (by decide +kernel) rfl (dk_Ta_pass d) (Nat.le_of_ble_eq_true rfl) (Or.inl ⟨9, o_r1_9, rfl⟩) h ?_
      rintro _ μ1 ⟨rfl, h⟩ hn1
      show G Γ m_La_readTerm (d + 1) (0, 0) Q 43 [.ref r0, .ref r1, .int x2, .int x3, .int x4] [] μ1
      refine run_ok (pc' := 46) [(.aload_n 0, 0, 0, 0), (.aload_n 1, 0, 0, 0), (.iload_n 2, 0, 0, 0)] _ _ _ _ (by decide +kernel) ?_
      show G Γ m_La_readTerm (d + 1) (0, 0) Q 46 [.ref r0, .ref r1, .int x2, .int x3, .int x4] [.int x2, .ref r1, .ref r0] μ1
      refine g_invV (M' := m_La_readAtom) (b1 := 0) (b2 := 0) (As := [.ref r1, .int x2]) (a := r0) (st := []) lk_2_83 (by decide +kernel) rfl (dk_La_readAtom d) (Nat.le_of_ble_eq_true rfl) (Or.inl ⟨2, ((o_r0_2).mono hn1), rfl⟩) h ?_
      rintro _ μ2 ⟨v2, rfl, h⟩ hn2
      show G Γ m_La_readTerm (d + 1) (0, 0) Q 49 [.ref r0, .ref r1, .int x2, .int x3, .int x4] [.int v2] μ2
      refine g_ifz_ne (pc' := 54) (off := 5) (by decide) (by decide +kernel) (fun hc => ?_) (fun hc => ?_)
      · replace h := h.2 hc
        show G Γ m_La_readTerm (d + 1) (0, 0) Q 54 [.ref r0, .ref r1, .int x2, .int x3, .int x4] [] μ2
        refine run_ok (pc' := 60) [(.aload_n 0, 0, 0, 0), (.sipush 20000, 0, 0, 0), (.iload_n 3, 0, 0, 0), (.iadd, 0, 0, 0)] _ _ _ _ (by decide +kernel) ?_
        show G Γ m_La_readTerm (d + 1) (0, 0) Q 60 [.ref r0, .ref r1, .int x2, .int x3, .int x4] [.int ((w 20000) + x3), .ref r0] μ2
        refine g_invV (M' := m_La_add) (b1 := 0) (b2 := 0) (As := [.int ((w 20000) + x3)]) (a := r0) (st := []) lk_2_38 (by decide +kernel) rfl (dk_La_add d) (Nat.le_of_ble_eq_true rfl) (Or.inl ⟨2, (((o_r0_2).mono hn1).mono hn2), rfl⟩) h ?_
        rintro _ μ3 ⟨rfl, h⟩ hn3
        show G Γ m_La_readTerm (d + 1) (0, 0) Q 63 [.ref r0, .ref r1, .int x2, .int x3, .int x4] [] μ3
        refine run_ok (pc' := 64) [(.aload_n 1, 0, 0, 0)] _ _ _ _ (by decide +kernel) ?_
        show G Γ m_La_readTerm (d + 1) (0, 0) Q 64 [.ref r0, .ref r1, .int x2, .int x3, .int x4] [.ref r1] μ3
        refine g_invV (M' := m_Ta_ahead) (b1 := 0) (b2 := 0) (As := []) (a := r1) (st := []) lk_2_42 (by decide +kernel) rfl (dk_Ta_ahead d) (Nat.le_of_ble_eq_true rfl) (Or.inl ⟨9, ((((o_r1_9).mono hn1).mono hn2).mono hn3), rfl⟩) h ?_
        rintro _ μ4 ⟨v4, rfl, h⟩ hn4
        show G Γ m_La_readTerm (d + 1) (0, 0) Q 67 [.ref r0, .ref r1, .int x2, .int x3, .int x4] [.int v4] μ4
        refine run_ok (pc' := 19) [(.istore_n 3, 0, 0, 0), (.iinc 4 1, 0, 0, 0), (.goto (-52), 0, 0, 0)] _ _ _ _ (by decide +kernel) ?_
        show G Γ m_La_readTerm (d + 1) (0, 0) Q 19 [.ref r0, .ref r1, .int x2, .int v4, .int (x4 + w 1)] [] μ4
        exact h
      · replace h := h.1 hc
        show G Γ m_La_readTerm (d + 1) (0, 0) Q 52 [.ref r0, .ref r1, .int x2, .int x3, .int x4] [] μ2
        refine run_ok (pc' := 53) [(.iconst 0, 0, 0, 0)] _ _ _ _ (by decide +kernel) ?_
        show G Γ m_La_readTerm (d + 1) (0, 0) Q 53 [.ref r0, .ref r1, .int x2, .int x3, .int x4] [.int (w 0)] μ2
        exact g_retz (by decide +kernel) rfl (Or.inl rfl) h
    · replace h := h.2 hc
      show G Γ m_La_readTerm (d + 1) (0, 0) Q 33 [.ref r0, .ref r1, .int x2, .int x3, .int x4] [] μ
      refine run_ok (pc' := 36) [(.iload_n 3, 0, 0, 0), (.bipush 47, 0, 0, 0)] _ _ _ _ (by decide +kernel) ?_
      show G Γ m_La_readTerm (d + 1) (0, 0) Q 36 [.ref r0, .ref r1, .int x2, .int x3, .int x4] [.int (w 47), .int x3] μ
      refine g_icmp_ne (pc' := 74) (off := 38) (by decide) (by decide +kernel) (fun hc => ?_) (fun hc => ?_)
      · replace h := h.2 hc
        show G Γ m_La_readTerm (d + 1) (0, 0) Q 74 [.ref r0, .ref r1, .int x2, .int x3, .int x4] [] μ
        refine run_ok (pc' := 75) [(.iconst 1, 0, 0, 0)] _ _ _ _ (by decide +kernel) ?_
        show G Γ m_La_readTerm (d + 1) (0, 0) Q 75 [.ref r0, .ref r1, .int x2, .int x3, .int x4] [.int (w 1)] μ
        exact g_retz (by decide +kernel) rfl (Or.inr rfl) h
      · replace h := h.1 hc
        show G Γ m_La_readTerm (d + 1) (0, 0) Q 39 [.ref r0, .ref r1, .int x2, .int x3, .int x4] [] μ
        refine run_ok (pc' := 40) [(.aload_n 1, 0, 0, 0)] _ _ _ _ (by decide +kernel) ?_
        show G Γ m_La_readTerm (d + 1) (0, 0) Q 40 [.ref r0, .ref r1, .int x2, .int x3, .int x4] [.ref r1] μ
        refine g_invV (M' := m_Ta_pass) (b1 := 0) (b2 := 0) (As := []) (a := r1) (st := []) lk_2_70 (by decide +kernel) rfl (dk_Ta_pass d) (Nat.le_of_ble_eq_true rfl) (Or.inl ⟨9, o_r1_9, rfl⟩) h ?_
        rintro _ μ5 ⟨rfl, h⟩ hn5
        show G Γ m_La_readTerm (d + 1) (0, 0) Q 43 [.ref r0, .ref r1, .int x2, .int x3, .int x4] [] μ5
        refine run_ok (pc' := 46) [(.aload_n 0, 0, 0, 0), (.aload_n 1, 0, 0, 0), (.iload_n 2, 0, 0, 0)] _ _ _ _ (by decide +kernel) ?_
        show G Γ m_La_readTerm (d + 1) (0, 0) Q 46 [.ref r0, .ref r1, .int x2, .int x3, .int x4] [.int x2, .ref r1, .ref r0] μ5
        refine g_invV (M' := m_La_readAtom) (b1 := 0) (b2 := 0) (As := [.ref r1, .int x2]) (a := r0) (st := []) lk_2_83 (by decide +kernel) rfl (dk_La_readAtom d) (Nat.le_of_ble_eq_true rfl) (Or.inl ⟨2, ((o_r0_2).mono hn5), rfl⟩) h ?_
        rintro _ μ6 ⟨v6, rfl, h⟩ hn6
        show G Γ m_La_readTerm (d + 1) (0, 0) Q 49 [.ref r0, .ref r1, .int x2, .int x3, .int x4] [.int v6] μ6
        refine g_ifz_ne (pc' := 54) (off := 5) (by decide) (by decide +kernel) (fun hc => ?_) (fun hc => ?_)
        · replace h := h.2 hc
          show G Γ m_La_readTerm (d + 1) (0, 0) Q 54 [.ref r0, .ref r1, .int x2, .int x3, .int x4] [] μ6
          refine run_ok (pc' := 60) [(.aload_n 0, 0, 0, 0), (.sipush 20000, 0, 0, 0), (.iload_n 3, 0, 0, 0), (.iadd, 0, 0, 0)] _ _ _ _ (by decide +kernel) ?_
          show G Γ m_La_readTerm (d + 1) (0, 0) Q 60 [.ref r0, .ref r1, .int x2, .int x3, .int x4] [.int ((w 20000) + x3), .ref r0] μ6
          refine g_invV (M' := m_La_add) (b1 := 0) (b2 := 0) (As := [.int ((w 20000) + x3)]) (a := r0) (st := []) lk_2_38 (by decide +kernel) rfl (dk_La_add d) (Nat.le_of_ble_eq_true rfl) (Or.inl ⟨2, (((o_r0_2).mono hn5).mono hn6), rfl⟩) h ?_
          rintro _ μ7 ⟨rfl, h⟩ hn7
          show G Γ m_La_readTerm (d + 1) (0, 0) Q 63 [.ref r0, .ref r1, .int x2, .int x3, .int x4] [] μ7
          refine run_ok (pc' := 64) [(.aload_n 1, 0, 0, 0)] _ _ _ _ (by decide +kernel) ?_
          show G Γ m_La_readTerm (d + 1) (0, 0) Q 64 [.ref r0, .ref r1, .int x2, .int x3, .int x4] [.ref r1] μ7
          refine g_invV (M' := m_Ta_ahead) (b1 := 0) (b2 := 0) (As := []) (a := r1) (st := []) lk_2_42 (by decide +kernel) rfl (dk_Ta_ahead d) (Nat.le_of_ble_eq_true rfl) (Or.inl ⟨9, ((((o_r1_9).mono hn5).mono hn6).mono hn7), rfl⟩) h ?_
          rintro _ μ8 ⟨v8, rfl, h⟩ hn8
          show G Γ m_La_readTerm (d + 1) (0, 0) Q 67 [.ref r0, .ref r1, .int x2, .int x3, .int x4] [.int v8] μ8
          refine run_ok (pc' := 19) [(.istore_n 3, 0, 0, 0), (.iinc 4 1, 0, 0, 0), (.goto (-52), 0, 0, 0)] _ _ _ _ (by decide +kernel) ?_
          show G Γ m_La_readTerm (d + 1) (0, 0) Q 19 [.ref r0, .ref r1, .int x2, .int v8, .int (x4 + w 1)] [] μ8
          exact h
        · replace h := h.1 hc
          show G Γ m_La_readTerm (d + 1) (0, 0) Q 52 [.ref r0, .ref r1, .int x2, .int x3, .int x4] [] μ6
          refine run_ok (pc' := 53) [(.iconst 0, 0, 0, 0)] _ _ _ _ (by decide +kernel) ?_
          show G Γ m_La_readTerm (d + 1) (0, 0) Q 53 [.ref r0, .ref r1, .int x2, .int x3, .int x4] [.int (w 0)] μ6
          exact g_retz (by decide +kernel) rfl (Or.inl rfl) h
/-! FrostBox$Law readAtom(LFrostBox$Tape;I)Z -/
set_option maxRecDepth 100000 in
theorem lk_2_90 : LkV 2 90 m_Ta_number 1 := ⟨lc_Ta_number, lwG_in (List.mem_of_getElem? (i := 592) rfl) rfl, lwG_in (List.mem_of_getElem? (i := 520) rfl) rfl, lwG_in (List.mem_of_getElem? (i := 521) rfl) rfl⟩
set_option maxRecDepth 100000 in
theorem lk_2_86 : LkSN 2 86 m_FB_placeAmong 2 := ⟨lc_FB_placeAmong, ⟨_, List.mem_of_getElem? (i := 587) rfl⟩, lwG_in (List.mem_of_getElem? (i := 513) rfl) rfl⟩
set_option maxRecDepth 100000 in
theorem B_La_readAtom_0 {Γ : XG} {d : Nat} {Q : Option Value → XM → Prop} {r0 r1 : Nat} {x2 : Int32} {μ : XM} (o_r1_9 : ob μ r1 9) (o_r0_2 : ob μ r0 2) (h : Call Γ m_Ta_ahead d [.ref r1] μ (KI (fun v1 μ1 => ((v1 = w 91 → ((x2 < w 6 → Call Γ m_Ta_pass d [.ref r1] μ1 (KV (fun μ7 => Call Γ m_La_readSum d [.ref r0, .ref r1, .int (x2 + (w 1))] μ7 (KI (fun v8 μ8 => ((v8 = w 0 → Q (some (.int (w 0))) μ8) ∧ (¬ v8 = w 0 → Call Γ m_Ta_demand d [.ref r1, .int (w 93)] μ8 (KI (fun v9 μ9 => ((v9 = w 0 → Q (some (.int (w 0))) μ9) ∧ (¬ v9 = w 0 → Q (some (.int (w 1))) μ9))))))))))) ∧ (¬ x2 < w 6 → Call Γ m_Ta_refuse d [.ref r1] μ1 (KI (fun v10 μ10 => ((v10 = w 0 ∨ v10 = w 1) ∧ Q (some (.int v10)) μ10)))))) ∧ (¬ v1 = w 91 → Call Γ m_FB_placeAmong d [.ref 3, .int v1] μ1 (KI (fun v2 μ2 => ((v2 = w (-1) → Call Γ m_Ta_number d [.ref r1, .int (w 4)] μ2 (KI (fun v3 μ3 => ((v3 = w (-1) → Q (some (.int (w 0))) μ3) ∧ (¬ v3 = w (-1) → Call Γ m_La_add d [.ref r0, .int v3] μ3 (KV (fun μ4 => Q (some (.int (w 1))) μ4))))))) ∧ (¬ v2 = w (-1) → Call Γ m_Ta_pass d [.ref r1] μ2 (KV (fun μ5 => Call Γ m_La_add d [.ref r0, .int ((w 10000) + v2)] μ5 (KV (fun μ6 => Q (some (.int (w 1))) μ6))))))))))))) : G Γ m_La_readAtom (d + 1) (0, 0) Q 0 [.ref r0, .ref r1, .int x2] [] μ := by
  refine run_ok (pc' := 1) [(.aload_n 1, 0, 0, 0)] _ _ _ _ (by decide +kernel) ?_
  show G Γ m_La_readAtom (d + 1) (0, 0) Q 1 [.ref r0, .ref r1, .int x2] [.ref r1] μ
  refine g_invV (M' := m_Ta_ahead) (b1 := 0) (b2 := 0) (As := []) (a := r1) (st := []) lk_2_42 (by decide +kernel) rfl (dk_Ta_ahead d) (Nat.le_of_ble_eq_true rfl) (Or.inl ⟨9, o_r1_9, rfl⟩) h ?_
  rintro _ μ1 ⟨v1, rfl, h⟩ hn1
  show G Γ m_La_readAtom (d + 1) (0, 0) Q 4 [.ref r0, .ref r1, .int x2] [.int v1] μ1
  refine run_ok (pc' := 8) [(.istore_n 3, 0, 0, 0), (.iload_n 3, 0, 0, 0), (.bipush 91, 0, 0, 0)] _ _ _ _ (by decide +kernel) ?_
  show G Γ m_La_readAtom (d + 1) (0, 0) Q 8 [.ref r0, .ref r1, .int x2, .int v1] [.int (w 91), .int v1] μ1
  refine g_icmp_ne (pc' := 52) (off := 44) (by decide) (by decide +kernel) (fun hc => ?_) (fun hc => ?_)
  · replace h := h.2 hc
    show G Γ m_La_readAtom (d + 1) (0, 0) Q 52 [.ref r0, .ref r1, .int x2, .int v1] [] μ1
    refine run_ok (pc' := 56) [(.getstatic 15, 1, 3, 0), (.iload_n 3, 0, 0, 0)] _ _ _ _ (by decide +kernel) ?_
    show G Γ m_La_readAtom (d + 1) (0, 0) Q 56 [.ref r0, .ref r1, .int x2, .int v1] [.int v1, .ref 3] μ1
    refine g_invSN (M' := m_FB_placeAmong) (b1 := 0) (b2 := 0) (As := [.ref 3, .int v1]) (st := []) lk_2_86 (by decide +kernel) rfl (dk_FB_placeAmong d) (Nat.le_of_ble_eq_true rfl) h ?_
    rintro _ μ2 ⟨v2, rfl, h⟩ hn2
    show G Γ m_La_readAtom (d + 1) (0, 0) Q 59 [.ref r0, .ref r1, .int x2, .int v1] [.int v2] μ2
    refine run_ok (pc' := 64) [(.istore 4, 0, 0, 0), (.iload 4, 0, 0, 0), (.iconst (-1), 0, 0, 0)] _ _ _ _ (by decide +kernel) ?_
    show G Γ m_La_readAtom (d + 1) (0, 0) Q 64 [.ref r0, .ref r1, .int x2, .int v1, .int v2] [.int (w (-1)), .int v2] μ2
    refine g_icmp_eq (pc' := 83) (off := 19) (by decide) (by decide +kernel) (fun hc => ?_) (fun hc => ?_)
    · replace h := h.1 hc
      show G Γ m_La_readAtom (d + 1) (0, 0) Q 83 [.ref r0, .ref r1, .int x2, .int v1, .int v2] [] μ2
      refine run_ok (pc' := 85) [(.aload_n 1, 0, 0, 0), (.iconst 4, 0, 0, 0)] _ _ _ _ (by decide +kernel) ?_
      show G Γ m_La_readAtom (d + 1) (0, 0) Q 85 [.ref r0, .ref r1, .int x2, .int v1, .int v2] [.int (w 4), .ref r1] μ2
      refine g_invV (M' := m_Ta_number) (b1 := 0) (b2 := 0) (As := [.int (w 4)]) (a := r1) (st := []) lk_2_90 (by decide +kernel) rfl (dk_Ta_number d) (Nat.le_of_ble_eq_true rfl) (Or.inl ⟨9, (((o_r1_9).mono hn1).mono hn2), rfl⟩) h ?_
      rintro _ μ3 ⟨v3, rfl, h⟩ hn3
      show G Γ m_La_readAtom (d + 1) (0, 0) Q 88 [.ref r0, .ref r1, .int x2, .int v1, .int v2] [.int v3] μ3
      refine run_ok (pc' := 93) [(.istore 5, 0, 0, 0), (.iload 5, 0, 0, 0), (.iconst (-1), 0, 0, 0)] _ _ _ _ (by decide +kernel) ?_
      show G Γ m_La_readAtom (d + 1) (0, 0) Q 93 [.ref r0, .ref r1, .int x2, .int v1, .int v2, .int v3] [.int (w (-1)), .int v3] μ3
      refine g_icmp_ne (pc' := 98) (off := 5) (by decide) (by decide +kernel) (fun hc => ?_) (fun hc => ?_)
      · replace h := h.2 hc
        show G Γ m_La_readAtom (d + 1) (0, 0) Q 98 [.ref r0, .ref r1, .int x2, .int v1, .int v2, .int v3] [] μ3
        refine run_ok (pc' := 101) [(.aload_n 0, 0, 0, 0), (.iload 5, 0, 0, 0)] _ _ _ _ (by decide +kernel) ?_
        show G Γ m_La_readAtom (d + 1) (0, 0) Q 101 [.ref r0, .ref r1, .int x2, .int v1, .int v2, .int v3] [.int v3, .ref r0] μ3
        refine g_invV (M' := m_La_add) (b1 := 0) (b2 := 0) (As := [.int v3]) (a := r0) (st := []) lk_2_38 (by decide +kernel) rfl (dk_La_add d) (Nat.le_of_ble_eq_true rfl) (Or.inl ⟨2, ((((o_r0_2).mono hn1).mono hn2).mono hn3), rfl⟩) h ?_
        rintro _ μ4 ⟨rfl, h⟩ hn4
        show G Γ m_La_readAtom (d + 1) (0, 0) Q 104 [.ref r0, .ref r1, .int x2, .int v1, .int v2, .int v3] [] μ4
        refine run_ok (pc' := 105) [(.iconst 1, 0, 0, 0)] _ _ _ _ (by decide +kernel) ?_
        show G Γ m_La_readAtom (d + 1) (0, 0) Q 105 [.ref r0, .ref r1, .int x2, .int v1, .int v2, .int v3] [.int (w 1)] μ4
        exact g_retz (by decide +kernel) rfl (Or.inr rfl) h
      · replace h := h.1 hc
        show G Γ m_La_readAtom (d + 1) (0, 0) Q 96 [.ref r0, .ref r1, .int x2, .int v1, .int v2, .int v3] [] μ3
        refine run_ok (pc' := 97) [(.iconst 0, 0, 0, 0)] _ _ _ _ (by decide +kernel) ?_
        show G Γ m_La_readAtom (d + 1) (0, 0) Q 97 [.ref r0, .ref r1, .int x2, .int v1, .int v2, .int v3] [.int (w 0)] μ3
        exact g_retz (by decide +kernel) rfl (Or.inl rfl) h
    · replace h := h.2 hc
      show G Γ m_La_readAtom (d + 1) (0, 0) Q 67 [.ref r0, .ref r1, .int x2, .int v1, .int v2] [] μ2
      refine run_ok (pc' := 68) [(.aload_n 1, 0, 0, 0)] _ _ _ _ (by decide +kernel) ?_
      show G Γ m_La_readAtom (d + 1) (0, 0) Q 68 [.ref r0, .ref r1, .int x2, .int v1, .int v2] [.ref r1] μ2
      refine g_invV (M' := m_Ta_pass) (b1 := 0) (b2 := 0) (As := []) (a := r1) (st := []) lk_2_70 (by decide +kernel) rfl (dk_Ta_pass d) (Nat.le_of_ble_eq_true rfl) (Or.inl ⟨9, (((o_r1_9).mono hn1).mono hn2), rfl⟩) h ?_
      rintro _ μ5 ⟨rfl, h⟩ hn5
      show G Γ m_La_readAtom (d + 1) (0, 0) Q 71 [.ref r0, .ref r1, .int x2, .int v1, .int v2] [] μ5
      refine run_ok (pc' := 78) [(.aload_n 0, 0, 0, 0), (.sipush 10000, 0, 0, 0), (.iload 4, 0, 0, 0), (.iadd, 0, 0, 0)] _ _ _ _ (by decide +kernel) ?_
      show G Γ m_La_readAtom (d + 1) (0, 0) Q 78 [.ref r0, .ref r1, .int x2, .int v1, .int v2] [.int ((w 10000) + v2), .ref r0] μ5
      refine g_invV (M' := m_La_add) (b1 := 0) (b2 := 0) (As := [.int ((w 10000) + v2)]) (a := r0) (st := []) lk_2_38 (by decide +kernel) rfl (dk_La_add d) (Nat.le_of_ble_eq_true rfl) (Or.inl ⟨2, ((((o_r0_2).mono hn1).mono hn2).mono hn5), rfl⟩) h ?_
      rintro _ μ6 ⟨rfl, h⟩ hn6
      show G Γ m_La_readAtom (d + 1) (0, 0) Q 81 [.ref r0, .ref r1, .int x2, .int v1, .int v2] [] μ6
      refine run_ok (pc' := 82) [(.iconst 1, 0, 0, 0)] _ _ _ _ (by decide +kernel) ?_
      show G Γ m_La_readAtom (d + 1) (0, 0) Q 82 [.ref r0, .ref r1, .int x2, .int v1, .int v2] [.int (w 1)] μ6
      exact g_retz (by decide +kernel) rfl (Or.inr rfl) h
  · replace h := h.1 hc
    show G Γ m_La_readAtom (d + 1) (0, 0) Q 11 [.ref r0, .ref r1, .int x2, .int v1] [] μ1
    refine run_ok (pc' := 14) [(.iload_n 2, 0, 0, 0), (.bipush 6, 0, 0, 0)] _ _ _ _ (by decide +kernel) ?_
    show G Γ m_La_readAtom (d + 1) (0, 0) Q 14 [.ref r0, .ref r1, .int x2, .int v1] [.int (w 6), .int x2] μ1
    refine g_icmp_lt (pc' := 22) (off := 8) (by decide) (by decide +kernel) (fun hc => ?_) (fun hc => ?_)
    · replace h := h.1 hc
      show G Γ m_La_readAtom (d + 1) (0, 0) Q 22 [.ref r0, .ref r1, .int x2, .int v1] [] μ1
      refine run_ok (pc' := 23) [(.aload_n 1, 0, 0, 0)] _ _ _ _ (by decide +kernel) ?_
      show G Γ m_La_readAtom (d + 1) (0, 0) Q 23 [.ref r0, .ref r1, .int x2, .int v1] [.ref r1] μ1
      refine g_invV (M' := m_Ta_pass) (b1 := 0) (b2 := 0) (As := []) (a := r1) (st := []) lk_2_70 (by decide +kernel) rfl (dk_Ta_pass d) (Nat.le_of_ble_eq_true rfl) (Or.inl ⟨9, ((o_r1_9).mono hn1), rfl⟩) h ?_
      rintro _ μ7 ⟨rfl, h⟩ hn7
      show G Γ m_La_readAtom (d + 1) (0, 0) Q 26 [.ref r0, .ref r1, .int x2, .int v1] [] μ7
      refine run_ok (pc' := 31) [(.aload_n 0, 0, 0, 0), (.aload_n 1, 0, 0, 0), (.iload_n 2, 0, 0, 0), (.iconst 1, 0, 0, 0), (.iadd, 0, 0, 0)] _ _ _ _ (by decide +kernel) ?_
      show G Γ m_La_readAtom (d + 1) (0, 0) Q 31 [.ref r0, .ref r1, .int x2, .int v1] [.int (x2 + (w 1)), .ref r1, .ref r0] μ7
      refine g_invV (M' := m_La_readSum) (b1 := 0) (b2 := 0) (As := [.ref r1, .int (x2 + (w 1))]) (a := r0) (st := []) lk_2_57 (by decide +kernel) rfl (dk_La_readSum d) (Nat.le_of_ble_eq_true rfl) (Or.inl ⟨2, (((o_r0_2).mono hn1).mono hn7), rfl⟩) h ?_
      rintro _ μ8 ⟨v8, rfl, h⟩ hn8
      show G Γ m_La_readAtom (d + 1) (0, 0) Q 34 [.ref r0, .ref r1, .int x2, .int v1] [.int v8] μ8
      refine g_ifz_eq (pc' := 50) (off := 16) (by decide) (by decide +kernel) (fun hc => ?_) (fun hc => ?_)
      · replace h := h.1 hc
        show G Γ m_La_readAtom (d + 1) (0, 0) Q 50 [.ref r0, .ref r1, .int x2, .int v1] [] μ8
        refine run_ok (pc' := 51) [(.iconst 0, 0, 0, 0)] _ _ _ _ (by decide +kernel) ?_
        show G Γ m_La_readAtom (d + 1) (0, 0) Q 51 [.ref r0, .ref r1, .int x2, .int v1] [.int (w 0)] μ8
        exact g_retz (by decide +kernel) rfl (Or.inl rfl) h
      · replace h := h.2 hc
        show G Γ m_La_readAtom (d + 1) (0, 0) Q 37 [.ref r0, .ref r1, .int x2, .int v1] [] μ8
        refine run_ok (pc' := 40) [(.aload_n 1, 0, 0, 0), (.bipush 93, 0, 0, 0)] _ _ _ _ (by decide +kernel) ?_
        show G Γ m_La_readAtom (d + 1) (0, 0) Q 40 [.ref r0, .ref r1, .int x2, .int v1] [.int (w 93), .ref r1] μ8
        refine g_invV (M' := m_Ta_demand) (b1 := 0) (b2 := 0) (As := [.int (w 93)]) (a := r1) (st := []) lk_2_46 (by decide +kernel) rfl (dk_Ta_demand d) (Nat.le_of_ble_eq_true rfl) (Or.inl ⟨9, ((((o_r1_9).mono hn1).mono hn7).mono hn8), rfl⟩) h ?_
        rintro _ μ9 ⟨v9, rfl, h⟩ hn9
        show G Γ m_La_readAtom (d + 1) (0, 0) Q 43 [.ref r0, .ref r1, .int x2, .int v1] [.int v9] μ9
        refine g_ifz_eq (pc' := 50) (off := 7) (by decide) (by decide +kernel) (fun hc => ?_) (fun hc => ?_)
        · replace h := h.1 hc
          show G Γ m_La_readAtom (d + 1) (0, 0) Q 50 [.ref r0, .ref r1, .int x2, .int v1] [] μ9
          refine run_ok (pc' := 51) [(.iconst 0, 0, 0, 0)] _ _ _ _ (by decide +kernel) ?_
          show G Γ m_La_readAtom (d + 1) (0, 0) Q 51 [.ref r0, .ref r1, .int x2, .int v1] [.int (w 0)] μ9
          exact g_retz (by decide +kernel) rfl (Or.inl rfl) h
        · replace h := h.2 hc
          show G Γ m_La_readAtom (d + 1) (0, 0) Q 46 [.ref r0, .ref r1, .int x2, .int v1] [] μ9
          refine run_ok (pc' := 51) [(.iconst 1, 0, 0, 0), (.goto 4, 0, 0, 0)] _ _ _ _ (by decide +kernel) ?_
          show G Γ m_La_readAtom (d + 1) (0, 0) Q 51 [.ref r0, .ref r1, .int x2, .int v1] [.int (w 1)] μ9
          exact g_retz (by decide +kernel) rfl (Or.inr rfl) h
    · replace h := h.2 hc
      show G Γ m_La_readAtom (d + 1) (0, 0) Q 17 [.ref r0, .ref r1, .int x2, .int v1] [] μ1
      refine run_ok (pc' := 18) [(.aload_n 1, 0, 0, 0)] _ _ _ _ (by decide +kernel) ?_
      show G Γ m_La_readAtom (d + 1) (0, 0) Q 18 [.ref r0, .ref r1, .int x2, .int v1] [.ref r1] μ1
      refine g_invV (M' := m_Ta_refuse) (b1 := 0) (b2 := 0) (As := []) (a := r1) (st := []) lk_2_50 (by decide +kernel) rfl (dk_Ta_refuse d) (Nat.le_of_ble_eq_true rfl) (Or.inl ⟨9, ((o_r1_9).mono hn1), rfl⟩) h ?_
      rintro _ μ10 ⟨v10, rfl, h⟩ hn10
      show G Γ m_La_readAtom (d + 1) (0, 0) Q 21 [.ref r0, .ref r1, .int x2, .int v1] [.int v10] μ10
      exact g_retz (by decide +kernel) rfl h.1 h.2
/-! FrostBox$Law worth(IIIIII)I -/
set_option maxRecDepth 100000 in
theorem lk_2_94 : LkS 2 94 m_La_joined 3 := ⟨lc_La_joined, lwG_in (List.mem_of_getElem? (i := 737) rfl) rfl, lwG_in (List.mem_of_getElem? (i := 738) rfl) rfl⟩
set_option maxRecDepth 100000 in
theorem B_La_worth_0 {Γ : XG} {d : Nat} {Q : Option Value → XM → Prop} {r0 r0_1 : Nat} {x1 x2 x3 x4 x5 x6 : Int32} {μ : XM} (o_r0_2 : ob μ r0 2) (e_r0_1 : xR μ r0 1 = some r0_1) (h : inS μ 0 r0_1 (w 0) ∧ ∀ μ2, μ2 = sI μ r0_1 (w 0).toNatClampNeg x1 → inS μ2 0 r0_1 (w 1) ∧ ∀ μ4, μ4 = sI μ2 r0_1 (w 1).toNatClampNeg x2 → inS μ4 0 r0_1 (w 2) ∧ ∀ μ6, μ6 = sI μ4 r0_1 (w 2).toNatClampNeg x3 → inS μ6 0 r0_1 (w 3) ∧ ∀ μ8, μ8 = sI μ6 r0_1 (w 3).toNatClampNeg x4 → inS μ8 0 r0_1 (w 4) ∧ ∀ μ10, μ10 = sI μ8 r0_1 (w 4).toNatClampNeg x5 → inS μ10 0 r0_1 (w 5) ∧ ∀ μ12, μ12 = sI μ10 r0_1 (w 5).toNatClampNeg x6 → G Γ m_La_worth (d + 1) (0, 0) Q 54 [.ref r0, jk, jk, jk, jk, jk, jk, .int (w 0), .int (w 0), .int (w 0)] [] μ12) : G Γ m_La_worth (d + 1) (0, 0) Q 0 [.ref r0, .int x1, .int x2, .int x3, .int x4, .int x5, .int x6] [] μ := by
  obtain ⟨is1, h⟩ := h
  refine run_ok (pc' := 7) [(.aload_n 0, 0, 0, 0), (.getfield 19, 2, 1, 2), (.iconst 0, 0, 0, 0), (.iload_n 1, 0, 0, 0), (.iastore, 0, 0, 0)] _ _ _ _ (by decide +kernel) ?_
  show _ ∧ (∃ _, _ ∧ (_ ∧ (_)))
  refine ⟨o_r0_2, r0_1, e_r0_1, is1, ?_⟩
  show G Γ m_La_worth (d + 1) (0, 0) Q 7 [.ref r0, .int x1, .int x2, .int x3, .int x4, .int x5, .int x6] [] (sI μ r0_1 (w 0).toNatClampNeg x1)
  obtain ⟨μ2, em2⟩ : ∃ m : XM, m = sI μ r0_1 (w 0).toNatClampNeg x1 := ⟨_, rfl⟩
  replace h := h μ2 em2
  have hm2 : xN μ ≤ xN μ2 := by rw [em2]; exact Nat.le_refl _
  rw [← em2]
  obtain ⟨is3, h⟩ := h
  refine run_ok (pc' := 14) [(.aload_n 0, 0, 0, 0), (.getfield 19, 2, 1, 2), (.iconst 1, 0, 0, 0), (.iload_n 2, 0, 0, 0), (.iastore, 0, 0, 0)] _ _ _ _ (by decide +kernel) ?_
  show _ ∧ (∃ _, _ ∧ (_ ∧ (_)))
  refine ⟨((o_r0_2).mono hm2), r0_1, (by rw [em2]; exact e_r0_1), is3, ?_⟩
  show G Γ m_La_worth (d + 1) (0, 0) Q 14 [.ref r0, .int x1, .int x2, .int x3, .int x4, .int x5, .int x6] [] (sI μ2 r0_1 (w 1).toNatClampNeg x2)
  obtain ⟨μ4, em4⟩ : ∃ m : XM, m = sI μ2 r0_1 (w 1).toNatClampNeg x2 := ⟨_, rfl⟩
  replace h := h μ4 em4
  have hm4 : xN μ2 ≤ xN μ4 := by rw [em4]; exact Nat.le_refl _
  rw [← em4]
  obtain ⟨is5, h⟩ := h
  refine run_ok (pc' := 21) [(.aload_n 0, 0, 0, 0), (.getfield 19, 2, 1, 2), (.iconst 2, 0, 0, 0), (.iload_n 3, 0, 0, 0), (.iastore, 0, 0, 0)] _ _ _ _ (by decide +kernel) ?_
  show _ ∧ (∃ _, _ ∧ (_ ∧ (_)))
  refine ⟨(((o_r0_2).mono hm2).mono hm4), r0_1, (by rw [em4]; exact (by rw [em2]; exact e_r0_1)), is5, ?_⟩
  show G Γ m_La_worth (d + 1) (0, 0) Q 21 [.ref r0, .int x1, .int x2, .int x3, .int x4, .int x5, .int x6] [] (sI μ4 r0_1 (w 2).toNatClampNeg x3)
  obtain ⟨μ6, em6⟩ : ∃ m : XM, m = sI μ4 r0_1 (w 2).toNatClampNeg x3 := ⟨_, rfl⟩
  replace h := h μ6 em6
  have hm6 : xN μ4 ≤ xN μ6 := by rw [em6]; exact Nat.le_refl _
  rw [← em6]
  obtain ⟨is7, h⟩ := h
  refine run_ok (pc' := 29) [(.aload_n 0, 0, 0, 0), (.getfield 19, 2, 1, 2), (.iconst 3, 0, 0, 0), (.iload 4, 0, 0, 0), (.iastore, 0, 0, 0)] _ _ _ _ (by decide +kernel) ?_
  show _ ∧ (∃ _, _ ∧ (_ ∧ (_)))
  refine ⟨((((o_r0_2).mono hm2).mono hm4).mono hm6), r0_1, (by rw [em6]; exact (by rw [em4]; exact (by rw [em2]; exact e_r0_1))), is7, ?_⟩
  show G Γ m_La_worth (d + 1) (0, 0) Q 29 [.ref r0, .int x1, .int x2, .int x3, .int x4, .int x5, .int x6] [] (sI μ6 r0_1 (w 3).toNatClampNeg x4)
  obtain ⟨μ8, em8⟩ : ∃ m : XM, m = sI μ6 r0_1 (w 3).toNatClampNeg x4 := ⟨_, rfl⟩
  replace h := h μ8 em8
  have hm8 : xN μ6 ≤ xN μ8 := by rw [em8]; exact Nat.le_refl _
  rw [← em8]
  obtain ⟨is9, h⟩ := h
  refine run_ok (pc' := 37) [(.aload_n 0, 0, 0, 0), (.getfield 19, 2, 1, 2), (.iconst 4, 0, 0, 0), (.iload 5, 0, 0, 0), (.iastore, 0, 0, 0)] _ _ _ _ (by decide +kernel) ?_
  show _ ∧ (∃ _, _ ∧ (_ ∧ (_)))
  refine ⟨(((((o_r0_2).mono hm2).mono hm4).mono hm6).mono hm8), r0_1, (by rw [em8]; exact (by rw [em6]; exact (by rw [em4]; exact (by rw [em2]; exact e_r0_1)))), is9, ?_⟩
  show G Γ m_La_worth (d + 1) (0, 0) Q 37 [.ref r0, .int x1, .int x2, .int x3, .int x4, .int x5, .int x6] [] (sI μ8 r0_1 (w 4).toNatClampNeg x5)
  obtain ⟨μ10, em10⟩ : ∃ m : XM, m = sI μ8 r0_1 (w 4).toNatClampNeg x5 := ⟨_, rfl⟩
  replace h := h μ10 em10
  have hm10 : xN μ8 ≤ xN μ10 := by rw [em10]; exact Nat.le_refl _
  rw [← em10]
  obtain ⟨is11, h⟩ := h
  refine run_ok (pc' := 45) [(.aload_n 0, 0, 0, 0), (.getfield 19, 2, 1, 2), (.iconst 5, 0, 0, 0), (.iload 6, 0, 0, 0), (.iastore, 0, 0, 0)] _ _ _ _ (by decide +kernel) ?_
  show _ ∧ (∃ _, _ ∧ (_ ∧ (_)))
  refine ⟨((((((o_r0_2).mono hm2).mono hm4).mono hm6).mono hm8).mono hm10), r0_1, (by rw [em10]; exact (by rw [em8]; exact (by rw [em6]; exact (by rw [em4]; exact (by rw [em2]; exact e_r0_1))))), is11, ?_⟩
  show G Γ m_La_worth (d + 1) (0, 0) Q 45 [.ref r0, .int x1, .int x2, .int x3, .int x4, .int x5, .int x6] [] (sI μ10 r0_1 (w 5).toNatClampNeg x6)
  obtain ⟨μ12, em12⟩ : ∃ m : XM, m = sI μ10 r0_1 (w 5).toNatClampNeg x6 := ⟨_, rfl⟩
  replace h := h μ12 em12
  have hm12 : xN μ10 ≤ xN μ12 := by rw [em12]; exact Nat.le_refl _
  rw [← em12]
  refine run_ok (pc' := 54) [(.iconst 0, 0, 0, 0), (.istore 7, 0, 0, 0), (.iconst 0, 0, 0, 0), (.istore 8, 0, 0, 0), (.iconst 0, 0, 0, 0), (.istore 9, 0, 0, 0)] _ _ _ _ (by decide +kernel) ?_
  show G Γ m_La_worth (d + 1) (0, 0) Q 54 [.ref r0, .int x1, .int x2, .int x3, .int x4, .int x5, .int x6, .int (w 0), .int (w 0), .int (w 0)] [] μ12
  exact g_wk (ls' := [.ref r0, jk, jk, jk, jk, jk, jk, .int (w 0), .int (w 0), .int (w 0)]) ⟨Or.inr rfl, Or.inl rfl, Or.inl rfl, Or.inl rfl, Or.inl rfl, Or.inl rfl, Or.inl rfl, Or.inr rfl, Or.inr rfl, Or.inr rfl, trivial⟩ h
set_option maxRecDepth 100000 in
theorem B_La_worth_54 {Γ : XG} {d : Nat} {Q : Option Value → XM → Prop} {r0 r0_0 r0_2 r0_1 : Nat} {x7 x8 x9 : Int32} {μ : XM} (o_r0_2 : ob μ r0 2) (e_r0_0 : xR μ r0 0 = some r0_0) (e_r0_2 : xR μ r0 2 = some r0_2) (e_r0_1 : xR μ r0 1 = some r0_1) (h : ((x9 < xI μ r0 3 → inb μ 0 r0_0 x9 ∧ ((x8 = w 0 → ((xI μ r0_0 x9.toNatClampNeg < w 20000 → ∃ n11, ar μ r0_2 0 n11 ∧ ((x7 < w n11 → ((xI μ r0_0 x9.toNatClampNeg < w 10000 → inS μ 0 r0_2 x7 ∧ ∀ μ16, μ16 = sI μ r0_2 x7.toNatClampNeg (xI μ r0_0 x9.toNatClampNeg) → G Γ m_La_worth (d + 1) (0, 0) Q 288 [.ref r0, jk, jk, jk, jk, jk, jk, .int (x7 + w 1), .int x8, .int x9] [] μ16) ∧ (¬ xI μ r0_0 x9.toNatClampNeg < w 10000 → inb μ 0 r0_1 ((xI μ r0_0 x9.toNatClampNeg) - (w 10000)) ∧ inS μ 0 r0_2 x7 ∧ ∀ μ14, μ14 = sI μ r0_2 x7.toNatClampNeg (xI μ r0_1 ((xI μ r0_0 x9.toNatClampNeg) - (w 10000)).toNatClampNeg) → G Γ m_La_worth (d + 1) (0, 0) Q 288 [.ref r0, jk, jk, jk, jk, jk, jk, .int (x7 + w 1), .int x8, .int x9] [] μ14))) ∧ (¬ x7 < w n11 → Q (some (.int (w 0))) μ))) ∧ (¬ xI μ r0_0 x9.toNatClampNeg < w 20000 → ((x7 < w 1 → G Γ m_La_worth (d + 1) (0, 0) Q 166 [.ref r0, jk, jk, jk, jk, jk, jk, .int x7] [] μ) ∧ (¬ x7 < w 1 → ((xI μ r0_0 x9.toNatClampNeg = w 20059 → G Γ m_La_worth (d + 1) (0, 0) Q 166 [.ref r0, jk, jk, jk, jk, jk, jk, .int x7] [] μ) ∧ (¬ xI μ r0_0 x9.toNatClampNeg = w 20059 → ((xI μ r0_0 x9.toNatClampNeg = w 20033 → inb μ 0 r0_2 (x7 - (w 1)) ∧ inS μ 0 r0_2 (x7 - (w 1)) ∧ ∀ μ10, μ10 = sI μ r0_2 (x7 - (w 1)).toNatClampNeg ((w 1) - (xI μ r0_2 (x7 - (w 1)).toNatClampNeg)) → G Γ m_La_worth (d + 1) (0, 0) Q 288 [.ref r0, jk, jk, jk, jk, jk, jk, .int x7, .int x8, .int x9] [] μ10) ∧ (¬ xI μ r0_0 x9.toNatClampNeg = w 20033 → ((xI μ r0_0 x9.toNatClampNeg = w 20063 → inb μ 0 r0_2 (x7 + w (-1)) ∧ ((xI μ r0_2 (x7 + w (-1)).toNatClampNeg = w 0 → G Γ m_La_worth (d + 1) (0, 0) Q 288 [.ref r0, jk, jk, jk, jk, jk, jk, .int (x7 + w (-1)), .int (w 1), .int x9] [] μ) ∧ (¬ xI μ r0_2 (x7 + w (-1)).toNatClampNeg = w 0 → G Γ m_La_worth (d + 1) (0, 0) Q 288 [.ref r0, jk, jk, jk, jk, jk, jk, .int (x7 + w (-1)), .int (w 0), .int x9] [] μ))) ∧ (¬ xI μ r0_0 x9.toNatClampNeg = w 20063 → ((x7 + w (-1) < w 1 → G Γ m_La_worth (d + 1) (0, 0) Q 288 [.ref r0, jk, jk, jk, jk, jk, jk, .int (x7 + w (-1)), .int x8, .int x9] [] μ) ∧ (¬ x7 + w (-1) < w 1 → inb μ 0 r0_2 ((x7 + w (-1)) - (w 1)) ∧ inb μ 0 r0_2 (x7 + w (-1)) ∧ Call Γ m_La_joined d [.int ((xI μ r0_0 x9.toNatClampNeg) - (w 20000)), .int (xI μ r0_2 ((x7 + w (-1)) - (w 1)).toNatClampNeg), .int (xI μ r0_2 (x7 + w (-1)).toNatClampNeg)] μ (KI (fun v4 μ4 => inS μ4 0 r0_2 ((x7 + w (-1)) - (w 1)) ∧ ∀ μ6, μ6 = sI μ4 r0_2 ((x7 + w (-1)) - (w 1)).toNatClampNeg v4 → G Γ m_La_worth (d + 1) (0, 0) Q 288 [.ref r0, jk, jk, jk, jk, jk, jk, .int (x7 + w (-1)), .int x8, .int x9] [] μ6))))))))))))))) ∧ (¬ x8 = w 0 → ((xI μ r0_0 x9.toNatClampNeg = w 20059 → G Γ m_La_worth (d + 1) (0, 0) Q 288 [.ref r0, jk, jk, jk, jk, jk, jk, .int x7, .int (w 0), .int x9] [] μ) ∧ (¬ xI μ r0_0 x9.toNatClampNeg = w 20059 → G Γ m_La_worth (d + 1) (0, 0) Q 288 [.ref r0, jk, jk, jk, jk, jk, jk, .int x7, .int (w 1), .int x9] [] μ))))) ∧ (¬ x9 < xI μ r0 3 → Q (some (.int (w 0))) μ))) : G Γ m_La_worth (d + 1) (0, 0) Q 54 [.ref r0, jk, jk, jk, jk, jk, jk, .int x7, .int x8, .int x9] [] μ := by
  refine run_ok (pc' := 60) [(.iload 9, 0, 0, 0), (.aload_n 0, 0, 0, 0), (.getfield 25, 2, 3, 0)] _ _ _ _ (by decide +kernel) ?_
  show _ ∧ (_)
  refine ⟨o_r0_2, ?_⟩
  show G Γ m_La_worth (d + 1) (0, 0) Q 60 [.ref r0, jk, jk, jk, jk, jk, jk, .int x7, .int x8, .int x9] [.int (xI μ r0 3), .int x9] μ
  refine g_icmp_ge (pc' := 294) (off := 234) (by decide) (by decide +kernel) (fun hc => ?_) (fun hc => ?_)
  · replace h := h.2 hc
    show G Γ m_La_worth (d + 1) (0, 0) Q 294 [.ref r0, jk, jk, jk, jk, jk, jk, .int x7, .int x8, .int x9] [] μ
    refine run_ok (pc' := 295) [(.iconst 0, 0, 0, 0)] _ _ _ _ (by decide +kernel) ?_
    show G Γ m_La_worth (d + 1) (0, 0) Q 295 [.ref r0, jk, jk, jk, jk, jk, jk, .int x7, .int x8, .int x9] [.int (w 0)] μ
    exact g_reti (by decide +kernel) rfl h
  · replace h := h.1 hc
    show G Γ m_La_worth (d + 1) (0, 0) Q 63 [.ref r0, jk, jk, jk, jk, jk, jk, .int x7, .int x8, .int x9] [] μ
    obtain ⟨ib1, h⟩ := h
    refine run_ok (pc' := 74) [(.aload_n 0, 0, 0, 0), (.getfield 9, 2, 0, 2), (.iload 9, 0, 0, 0), (.iaload, 0, 0, 0), (.istore 10, 0, 0, 0), (.iload 8, 0, 0, 0)] _ _ _ _ (by decide +kernel) ?_
    show _ ∧ (∃ _, _ ∧ (_ ∧ (_)))
    refine ⟨o_r0_2, r0_0, e_r0_0, ib1, ?_⟩
    show G Γ m_La_worth (d + 1) (0, 0) Q 74 [.ref r0, jk, jk, jk, jk, jk, jk, .int x7, .int x8, .int x9, .int (xI μ r0_0 x9.toNatClampNeg)] [.int x8] μ
    refine g_ifz_eq (pc' := 95) (off := 21) (by decide) (by decide +kernel) (fun hc => ?_) (fun hc => ?_)
    · replace h := h.1 hc
      show G Γ m_La_worth (d + 1) (0, 0) Q 95 [.ref r0, jk, jk, jk, jk, jk, jk, .int x7, .int x8, .int x9, .int (xI μ r0_0 x9.toNatClampNeg)] [] μ
      refine run_ok (pc' := 100) [(.iload 10, 0, 0, 0), (.sipush 20000, 0, 0, 0)] _ _ _ _ (by decide +kernel) ?_
      show G Γ m_La_worth (d + 1) (0, 0) Q 100 [.ref r0, jk, jk, jk, jk, jk, jk, .int x7, .int x8, .int x9, .int (xI μ r0_0 x9.toNatClampNeg)] [.int (w 20000), .int (xI μ r0_0 x9.toNatClampNeg)] μ
      refine g_icmp_ge (pc' := 152) (off := 52) (by decide) (by decide +kernel) (fun hc => ?_) (fun hc => ?_)
      · replace h := h.2 hc
        show G Γ m_La_worth (d + 1) (0, 0) Q 152 [.ref r0, jk, jk, jk, jk, jk, jk, .int x7, .int x8, .int x9, .int (xI μ r0_0 x9.toNatClampNeg)] [] μ
        refine run_ok (pc' := 155) [(.iload 7, 0, 0, 0), (.iconst 1, 0, 0, 0)] _ _ _ _ (by decide +kernel) ?_
        show G Γ m_La_worth (d + 1) (0, 0) Q 155 [.ref r0, jk, jk, jk, jk, jk, jk, .int x7, .int x8, .int x9, .int (xI μ r0_0 x9.toNatClampNeg)] [.int (w 1), .int x7] μ
        refine g_icmp_lt (pc' := 166) (off := 11) (by decide) (by decide +kernel) (fun hc => ?_) (fun hc => ?_)
        · replace h := h.1 hc
          show G Γ m_La_worth (d + 1) (0, 0) Q 166 [.ref r0, jk, jk, jk, jk, jk, jk, .int x7, .int x8, .int x9, .int (xI μ r0_0 x9.toNatClampNeg)] [] μ
          exact g_wk (ls' := [.ref r0, jk, jk, jk, jk, jk, jk, .int x7]) ⟨Or.inr rfl, Or.inl rfl, Or.inl rfl, Or.inl rfl, Or.inl rfl, Or.inl rfl, Or.inl rfl, Or.inr rfl, trivial⟩ h
        · replace h := h.2 hc
          show G Γ m_La_worth (d + 1) (0, 0) Q 158 [.ref r0, jk, jk, jk, jk, jk, jk, .int x7, .int x8, .int x9, .int (xI μ r0_0 x9.toNatClampNeg)] [] μ
          refine run_ok (pc' := 163) [(.iload 10, 0, 0, 0), (.sipush 20059, 0, 0, 0)] _ _ _ _ (by decide +kernel) ?_
          show G Γ m_La_worth (d + 1) (0, 0) Q 163 [.ref r0, jk, jk, jk, jk, jk, jk, .int x7, .int x8, .int x9, .int (xI μ r0_0 x9.toNatClampNeg)] [.int (w 20059), .int (xI μ r0_0 x9.toNatClampNeg)] μ
          refine g_icmp_ne (pc' := 186) (off := 23) (by decide) (by decide +kernel) (fun hc => ?_) (fun hc => ?_)
          · replace h := h.2 hc
            show G Γ m_La_worth (d + 1) (0, 0) Q 186 [.ref r0, jk, jk, jk, jk, jk, jk, .int x7, .int x8, .int x9, .int (xI μ r0_0 x9.toNatClampNeg)] [] μ
            refine run_ok (pc' := 191) [(.iload 10, 0, 0, 0), (.sipush 20033, 0, 0, 0)] _ _ _ _ (by decide +kernel) ?_
            show G Γ m_La_worth (d + 1) (0, 0) Q 191 [.ref r0, jk, jk, jk, jk, jk, jk, .int x7, .int x8, .int x9, .int (xI μ r0_0 x9.toNatClampNeg)] [.int (w 20033), .int (xI μ r0_0 x9.toNatClampNeg)] μ
            refine g_icmp_ne (pc' := 217) (off := 26) (by decide) (by decide +kernel) (fun hc => ?_) (fun hc => ?_)
            · replace h := h.2 hc
              show G Γ m_La_worth (d + 1) (0, 0) Q 217 [.ref r0, jk, jk, jk, jk, jk, jk, .int x7, .int x8, .int x9, .int (xI μ r0_0 x9.toNatClampNeg)] [] μ
              refine run_ok (pc' := 225) [(.iinc 7 (-1), 0, 0, 0), (.iload 10, 0, 0, 0), (.sipush 20063, 0, 0, 0)] _ _ _ _ (by decide +kernel) ?_
              show G Γ m_La_worth (d + 1) (0, 0) Q 225 [.ref r0, jk, jk, jk, jk, jk, jk, .int (x7 + w (-1)), .int x8, .int x9, .int (xI μ r0_0 x9.toNatClampNeg)] [.int (w 20063), .int (xI μ r0_0 x9.toNatClampNeg)] μ
              refine g_icmp_ne (pc' := 248) (off := 23) (by decide) (by decide +kernel) (fun hc => ?_) (fun hc => ?_)
              · replace h := h.2 hc
                show G Γ m_La_worth (d + 1) (0, 0) Q 248 [.ref r0, jk, jk, jk, jk, jk, jk, .int (x7 + w (-1)), .int x8, .int x9, .int (xI μ r0_0 x9.toNatClampNeg)] [] μ
                refine run_ok (pc' := 251) [(.iload 7, 0, 0, 0), (.iconst 1, 0, 0, 0)] _ _ _ _ (by decide +kernel) ?_
                show G Γ m_La_worth (d + 1) (0, 0) Q 251 [.ref r0, jk, jk, jk, jk, jk, jk, .int (x7 + w (-1)), .int x8, .int x9, .int (xI μ r0_0 x9.toNatClampNeg)] [.int (w 1), .int (x7 + w (-1))] μ
                refine g_icmp_lt (pc' := 288) (off := 37) (by decide) (by decide +kernel) (fun hc => ?_) (fun hc => ?_)
                · replace h := h.1 hc
                  show G Γ m_La_worth (d + 1) (0, 0) Q 288 [.ref r0, jk, jk, jk, jk, jk, jk, .int (x7 + w (-1)), .int x8, .int x9, .int (xI μ r0_0 x9.toNatClampNeg)] [] μ
                  exact g_wk (ls' := [.ref r0, jk, jk, jk, jk, jk, jk, .int (x7 + w (-1)), .int x8, .int x9]) ⟨Or.inr rfl, Or.inl rfl, Or.inl rfl, Or.inl rfl, Or.inl rfl, Or.inl rfl, Or.inl rfl, Or.inr rfl, Or.inr rfl, Or.inr rfl, trivial⟩ h
                · replace h := h.2 hc
                  show G Γ m_La_worth (d + 1) (0, 0) Q 254 [.ref r0, jk, jk, jk, jk, jk, jk, .int (x7 + w (-1)), .int x8, .int x9, .int (xI μ r0_0 x9.toNatClampNeg)] [] μ
                  obtain ⟨ib2, h⟩ := h
                  obtain ⟨ib3, h⟩ := h
                  refine run_ok (pc' := 284) [(.aload_n 0, 0, 0, 0), (.getfield 22, 2, 2, 2), (.iload 7, 0, 0, 0), (.iconst 1, 0, 0, 0), (.isub, 0, 0, 0), (.iload 10, 0, 0, 0), (.sipush 20000, 0, 0, 0), (.isub, 0, 0, 0), (.aload_n 0, 0, 0, 0), (.getfield 22, 2, 2, 2), (.iload 7, 0, 0, 0), (.iconst 1, 0, 0, 0), (.isub, 0, 0, 0), (.iaload, 0, 0, 0), (.aload_n 0, 0, 0, 0), (.getfield 22, 2, 2, 2), (.iload 7, 0, 0, 0), (.iaload, 0, 0, 0)] _ _ _ _ (by decide +kernel) ?_
                  show _ ∧ (∃ _, _ ∧ (_ ∧ (∃ _, _ ∧ (_ ∧ (_ ∧ (∃ _, _ ∧ (_ ∧ (_))))))))
                  refine ⟨o_r0_2, r0_2, e_r0_2, o_r0_2, r0_2, e_r0_2, ib2, o_r0_2, r0_2, e_r0_2, ib3, ?_⟩
                  show G Γ m_La_worth (d + 1) (0, 0) Q 284 [.ref r0, jk, jk, jk, jk, jk, jk, .int (x7 + w (-1)), .int x8, .int x9, .int (xI μ r0_0 x9.toNatClampNeg)] [.int (xI μ r0_2 (x7 + w (-1)).toNatClampNeg), .int (xI μ r0_2 ((x7 + w (-1)) - (w 1)).toNatClampNeg), .int ((xI μ r0_0 x9.toNatClampNeg) - (w 20000)), .int ((x7 + w (-1)) - (w 1)), .ref r0_2] μ
                  refine g_invS (M' := m_La_joined) (b1 := 0) (b2 := 0) (As := [.int ((xI μ r0_0 x9.toNatClampNeg) - (w 20000)), .int (xI μ r0_2 ((x7 + w (-1)) - (w 1)).toNatClampNeg), .int (xI μ r0_2 (x7 + w (-1)).toNatClampNeg)]) (st := [.int ((x7 + w (-1)) - (w 1)), .ref r0_2]) lk_2_94 (by decide +kernel) rfl (dk_La_joined d) (Nat.le_of_ble_eq_true rfl) h ?_
                  rintro _ μ4 ⟨v4, rfl, h⟩ hn4
                  show G Γ m_La_worth (d + 1) (0, 0) Q 287 [.ref r0, jk, jk, jk, jk, jk, jk, .int (x7 + w (-1)), .int x8, .int x9, .int (xI μ r0_0 x9.toNatClampNeg)] [.int v4, .int ((x7 + w (-1)) - (w 1)), .ref r0_2] μ4
                  obtain ⟨is5, h⟩ := h
                  refine run_ok (pc' := 288) [(.iastore, 0, 0, 0)] _ _ _ _ (by decide +kernel) ?_
                  show _ ∧ (_)
                  refine ⟨is5, ?_⟩
                  show G Γ m_La_worth (d + 1) (0, 0) Q 288 [.ref r0, jk, jk, jk, jk, jk, jk, .int (x7 + w (-1)), .int x8, .int x9, .int (xI μ r0_0 x9.toNatClampNeg)] [] (sI μ4 r0_2 ((x7 + w (-1)) - (w 1)).toNatClampNeg v4)
                  obtain ⟨μ6, em6⟩ : ∃ m : XM, m = sI μ4 r0_2 ((x7 + w (-1)) - (w 1)).toNatClampNeg v4 := ⟨_, rfl⟩
                  replace h := h μ6 em6
                  have hm6 : xN μ4 ≤ xN μ6 := by rw [em6]; exact Nat.le_refl _
                  rw [← em6]
                  exact g_wk (ls' := [.ref r0, jk, jk, jk, jk, jk, jk, .int (x7 + w (-1)), .int x8, .int x9]) ⟨Or.inr rfl, Or.inl rfl, Or.inl rfl, Or.inl rfl, Or.inl rfl, Or.inl rfl, Or.inl rfl, Or.inr rfl, Or.inr rfl, Or.inr rfl, trivial⟩ h
              · replace h := h.1 hc
                show G Γ m_La_worth (d + 1) (0, 0) Q 228 [.ref r0, jk, jk, jk, jk, jk, jk, .int (x7 + w (-1)), .int x8, .int x9, .int (xI μ r0_0 x9.toNatClampNeg)] [] μ
                obtain ⟨ib7, h⟩ := h
                refine run_ok (pc' := 235) [(.aload_n 0, 0, 0, 0), (.getfield 22, 2, 2, 2), (.iload 7, 0, 0, 0), (.iaload, 0, 0, 0)] _ _ _ _ (by decide +kernel) ?_
                show _ ∧ (∃ _, _ ∧ (_ ∧ (_)))
                refine ⟨o_r0_2, r0_2, e_r0_2, ib7, ?_⟩
                show G Γ m_La_worth (d + 1) (0, 0) Q 235 [.ref r0, jk, jk, jk, jk, jk, jk, .int (x7 + w (-1)), .int x8, .int x9, .int (xI μ r0_0 x9.toNatClampNeg)] [.int (xI μ r0_2 (x7 + w (-1)).toNatClampNeg)] μ
                refine g_ifz_ne (pc' := 242) (off := 7) (by decide) (by decide +kernel) (fun hc => ?_) (fun hc => ?_)
                · replace h := h.2 hc
                  show G Γ m_La_worth (d + 1) (0, 0) Q 242 [.ref r0, jk, jk, jk, jk, jk, jk, .int (x7 + w (-1)), .int x8, .int x9, .int (xI μ r0_0 x9.toNatClampNeg)] [] μ
                  refine run_ok (pc' := 288) [(.iconst 0, 0, 0, 0), (.istore 8, 0, 0, 0), (.goto 43, 0, 0, 0)] _ _ _ _ (by decide +kernel) ?_
                  show G Γ m_La_worth (d + 1) (0, 0) Q 288 [.ref r0, jk, jk, jk, jk, jk, jk, .int (x7 + w (-1)), .int (w 0), .int x9, .int (xI μ r0_0 x9.toNatClampNeg)] [] μ
                  exact g_wk (ls' := [.ref r0, jk, jk, jk, jk, jk, jk, .int (x7 + w (-1)), .int (w 0), .int x9]) ⟨Or.inr rfl, Or.inl rfl, Or.inl rfl, Or.inl rfl, Or.inl rfl, Or.inl rfl, Or.inl rfl, Or.inr rfl, Or.inr rfl, Or.inr rfl, trivial⟩ h
                · replace h := h.1 hc
                  show G Γ m_La_worth (d + 1) (0, 0) Q 238 [.ref r0, jk, jk, jk, jk, jk, jk, .int (x7 + w (-1)), .int x8, .int x9, .int (xI μ r0_0 x9.toNatClampNeg)] [] μ
                  refine run_ok (pc' := 288) [(.iconst 1, 0, 0, 0), (.goto 4, 0, 0, 0), (.istore 8, 0, 0, 0), (.goto 43, 0, 0, 0)] _ _ _ _ (by decide +kernel) ?_
                  show G Γ m_La_worth (d + 1) (0, 0) Q 288 [.ref r0, jk, jk, jk, jk, jk, jk, .int (x7 + w (-1)), .int (w 1), .int x9, .int (xI μ r0_0 x9.toNatClampNeg)] [] μ
                  exact g_wk (ls' := [.ref r0, jk, jk, jk, jk, jk, jk, .int (x7 + w (-1)), .int (w 1), .int x9]) ⟨Or.inr rfl, Or.inl rfl, Or.inl rfl, Or.inl rfl, Or.inl rfl, Or.inl rfl, Or.inl rfl, Or.inr rfl, Or.inr rfl, Or.inr rfl, trivial⟩ h
            · replace h := h.1 hc
              show G Γ m_La_worth (d + 1) (0, 0) Q 194 [.ref r0, jk, jk, jk, jk, jk, jk, .int x7, .int x8, .int x9, .int (xI μ r0_0 x9.toNatClampNeg)] [] μ
              obtain ⟨ib8, h⟩ := h
              obtain ⟨is9, h⟩ := h
              refine run_ok (pc' := 214) [(.aload_n 0, 0, 0, 0), (.getfield 22, 2, 2, 2), (.iload 7, 0, 0, 0), (.iconst 1, 0, 0, 0), (.isub, 0, 0, 0), (.iconst 1, 0, 0, 0), (.aload_n 0, 0, 0, 0), (.getfield 22, 2, 2, 2), (.iload 7, 0, 0, 0), (.iconst 1, 0, 0, 0), (.isub, 0, 0, 0), (.iaload, 0, 0, 0), (.isub, 0, 0, 0), (.iastore, 0, 0, 0)] _ _ _ _ (by decide +kernel) ?_
              show _ ∧ (∃ _, _ ∧ (_ ∧ (∃ _, _ ∧ (_ ∧ (_ ∧ (_))))))
              refine ⟨o_r0_2, r0_2, e_r0_2, o_r0_2, r0_2, e_r0_2, ib8, is9, ?_⟩
              show G Γ m_La_worth (d + 1) (0, 0) Q 214 [.ref r0, jk, jk, jk, jk, jk, jk, .int x7, .int x8, .int x9, .int (xI μ r0_0 x9.toNatClampNeg)] [] (sI μ r0_2 (x7 - (w 1)).toNatClampNeg ((w 1) - (xI μ r0_2 (x7 - (w 1)).toNatClampNeg)))
              obtain ⟨μ10, em10⟩ : ∃ m : XM, m = sI μ r0_2 (x7 - (w 1)).toNatClampNeg ((w 1) - (xI μ r0_2 (x7 - (w 1)).toNatClampNeg)) := ⟨_, rfl⟩
              replace h := h μ10 em10
              have hm10 : xN μ ≤ xN μ10 := by rw [em10]; exact Nat.le_refl _
              rw [← em10]
              refine run_ok (pc' := 288) [(.goto 74, 0, 0, 0)] _ _ _ _ (by decide +kernel) ?_
              show G Γ m_La_worth (d + 1) (0, 0) Q 288 [.ref r0, jk, jk, jk, jk, jk, jk, .int x7, .int x8, .int x9, .int (xI μ r0_0 x9.toNatClampNeg)] [] μ10
              exact g_wk (ls' := [.ref r0, jk, jk, jk, jk, jk, jk, .int x7, .int x8, .int x9]) ⟨Or.inr rfl, Or.inl rfl, Or.inl rfl, Or.inl rfl, Or.inl rfl, Or.inl rfl, Or.inl rfl, Or.inr rfl, Or.inr rfl, Or.inr rfl, trivial⟩ h
          · replace h := h.1 hc
            show G Γ m_La_worth (d + 1) (0, 0) Q 166 [.ref r0, jk, jk, jk, jk, jk, jk, .int x7, .int x8, .int x9, .int (xI μ r0_0 x9.toNatClampNeg)] [] μ
            exact g_wk (ls' := [.ref r0, jk, jk, jk, jk, jk, jk, .int x7]) ⟨Or.inr rfl, Or.inl rfl, Or.inl rfl, Or.inl rfl, Or.inl rfl, Or.inl rfl, Or.inl rfl, Or.inr rfl, trivial⟩ h
      · replace h := h.1 hc
        show G Γ m_La_worth (d + 1) (0, 0) Q 103 [.ref r0, jk, jk, jk, jk, jk, jk, .int x7, .int x8, .int x9, .int (xI μ r0_0 x9.toNatClampNeg)] [] μ
        obtain ⟨n11, el11, h⟩ := h
        refine run_ok (pc' := 110) [(.iload 7, 0, 0, 0), (.aload_n 0, 0, 0, 0), (.getfield 22, 2, 2, 2), (.arraylength, 0, 0, 0)] _ _ _ _ (by decide +kernel) ?_
        show _ ∧ (∃ _, _ ∧ (∃ _, _ ∧ (_)))
        refine ⟨o_r0_2, r0_2, e_r0_2, n11, el11, ?_⟩
        show G Γ m_La_worth (d + 1) (0, 0) Q 110 [.ref r0, jk, jk, jk, jk, jk, jk, .int x7, .int x8, .int x9, .int (xI μ r0_0 x9.toNatClampNeg)] [.int (w n11), .int x7] μ
        refine g_icmp_lt (pc' := 115) (off := 5) (by decide) (by decide +kernel) (fun hc => ?_) (fun hc => ?_)
        · replace h := h.1 hc
          show G Γ m_La_worth (d + 1) (0, 0) Q 115 [.ref r0, jk, jk, jk, jk, jk, jk, .int x7, .int x8, .int x9, .int (xI μ r0_0 x9.toNatClampNeg)] [] μ
          refine run_ok (pc' := 126) [(.aload_n 0, 0, 0, 0), (.getfield 22, 2, 2, 2), (.iload 7, 0, 0, 0), (.iload 10, 0, 0, 0), (.sipush 10000, 0, 0, 0)] _ _ _ _ (by decide +kernel) ?_
          show _ ∧ (∃ _, _ ∧ (_))
          refine ⟨o_r0_2, r0_2, e_r0_2, ?_⟩
          show G Γ m_La_worth (d + 1) (0, 0) Q 126 [.ref r0, jk, jk, jk, jk, jk, jk, .int x7, .int x8, .int x9, .int (xI μ r0_0 x9.toNatClampNeg)] [.int (w 10000), .int (xI μ r0_0 x9.toNatClampNeg), .int x7, .ref r0_2] μ
          refine g_icmp_ge (pc' := 134) (off := 8) (by decide) (by decide +kernel) (fun hc => ?_) (fun hc => ?_)
          · replace h := h.2 hc
            show G Γ m_La_worth (d + 1) (0, 0) Q 134 [.ref r0, jk, jk, jk, jk, jk, jk, .int x7, .int x8, .int x9, .int (xI μ r0_0 x9.toNatClampNeg)] [.int x7, .ref r0_2] μ
            obtain ⟨ib12, h⟩ := h
            obtain ⟨is13, h⟩ := h
            refine run_ok (pc' := 146) [(.aload_n 0, 0, 0, 0), (.getfield 19, 2, 1, 2), (.iload 10, 0, 0, 0), (.sipush 10000, 0, 0, 0), (.isub, 0, 0, 0), (.iaload, 0, 0, 0), (.iastore, 0, 0, 0)] _ _ _ _ (by decide +kernel) ?_
            show _ ∧ (∃ _, _ ∧ (_ ∧ (_ ∧ (_))))
            refine ⟨o_r0_2, r0_1, e_r0_1, ib12, is13, ?_⟩
            show G Γ m_La_worth (d + 1) (0, 0) Q 146 [.ref r0, jk, jk, jk, jk, jk, jk, .int x7, .int x8, .int x9, .int (xI μ r0_0 x9.toNatClampNeg)] [] (sI μ r0_2 x7.toNatClampNeg (xI μ r0_1 ((xI μ r0_0 x9.toNatClampNeg) - (w 10000)).toNatClampNeg))
            obtain ⟨μ14, em14⟩ : ∃ m : XM, m = sI μ r0_2 x7.toNatClampNeg (xI μ r0_1 ((xI μ r0_0 x9.toNatClampNeg) - (w 10000)).toNatClampNeg) := ⟨_, rfl⟩
            replace h := h μ14 em14
            have hm14 : xN μ ≤ xN μ14 := by rw [em14]; exact Nat.le_refl _
            rw [← em14]
            refine run_ok (pc' := 288) [(.iinc 7 1, 0, 0, 0), (.goto 139, 0, 0, 0)] _ _ _ _ (by decide +kernel) ?_
            show G Γ m_La_worth (d + 1) (0, 0) Q 288 [.ref r0, jk, jk, jk, jk, jk, jk, .int (x7 + w 1), .int x8, .int x9, .int (xI μ r0_0 x9.toNatClampNeg)] [] μ14
            exact g_wk (ls' := [.ref r0, jk, jk, jk, jk, jk, jk, .int (x7 + w 1), .int x8, .int x9]) ⟨Or.inr rfl, Or.inl rfl, Or.inl rfl, Or.inl rfl, Or.inl rfl, Or.inl rfl, Or.inl rfl, Or.inr rfl, Or.inr rfl, Or.inr rfl, trivial⟩ h
          · replace h := h.1 hc
            show G Γ m_La_worth (d + 1) (0, 0) Q 129 [.ref r0, jk, jk, jk, jk, jk, jk, .int x7, .int x8, .int x9, .int (xI μ r0_0 x9.toNatClampNeg)] [.int x7, .ref r0_2] μ
            obtain ⟨is15, h⟩ := h
            refine run_ok (pc' := 146) [(.iload 10, 0, 0, 0), (.goto 14, 0, 0, 0), (.iastore, 0, 0, 0)] _ _ _ _ (by decide +kernel) ?_
            show _ ∧ (_)
            refine ⟨is15, ?_⟩
            show G Γ m_La_worth (d + 1) (0, 0) Q 146 [.ref r0, jk, jk, jk, jk, jk, jk, .int x7, .int x8, .int x9, .int (xI μ r0_0 x9.toNatClampNeg)] [] (sI μ r0_2 x7.toNatClampNeg (xI μ r0_0 x9.toNatClampNeg))
            obtain ⟨μ16, em16⟩ : ∃ m : XM, m = sI μ r0_2 x7.toNatClampNeg (xI μ r0_0 x9.toNatClampNeg) := ⟨_, rfl⟩
            replace h := h μ16 em16
            have hm16 : xN μ ≤ xN μ16 := by rw [em16]; exact Nat.le_refl _
            rw [← em16]
            refine run_ok (pc' := 288) [(.iinc 7 1, 0, 0, 0), (.goto 139, 0, 0, 0)] _ _ _ _ (by decide +kernel) ?_
            show G Γ m_La_worth (d + 1) (0, 0) Q 288 [.ref r0, jk, jk, jk, jk, jk, jk, .int (x7 + w 1), .int x8, .int x9, .int (xI μ r0_0 x9.toNatClampNeg)] [] μ16
            exact g_wk (ls' := [.ref r0, jk, jk, jk, jk, jk, jk, .int (x7 + w 1), .int x8, .int x9]) ⟨Or.inr rfl, Or.inl rfl, Or.inl rfl, Or.inl rfl, Or.inl rfl, Or.inl rfl, Or.inl rfl, Or.inr rfl, Or.inr rfl, Or.inr rfl, trivial⟩ h
        · replace h := h.2 hc
          show G Γ m_La_worth (d + 1) (0, 0) Q 113 [.ref r0, jk, jk, jk, jk, jk, jk, .int x7, .int x8, .int x9, .int (xI μ r0_0 x9.toNatClampNeg)] [] μ
          refine run_ok (pc' := 114) [(.iconst 0, 0, 0, 0)] _ _ _ _ (by decide +kernel) ?_
          show G Γ m_La_worth (d + 1) (0, 0) Q 114 [.ref r0, jk, jk, jk, jk, jk, jk, .int x7, .int x8, .int x9, .int (xI μ r0_0 x9.toNatClampNeg)] [.int (w 0)] μ
          exact g_reti (by decide +kernel) rfl h
    · replace h := h.2 hc
      show G Γ m_La_worth (d + 1) (0, 0) Q 77 [.ref r0, jk, jk, jk, jk, jk, jk, .int x7, .int x8, .int x9, .int (xI μ r0_0 x9.toNatClampNeg)] [] μ
      refine run_ok (pc' := 82) [(.iload 10, 0, 0, 0), (.sipush 20059, 0, 0, 0)] _ _ _ _ (by decide +kernel) ?_
      show G Γ m_La_worth (d + 1) (0, 0) Q 82 [.ref r0, jk, jk, jk, jk, jk, jk, .int x7, .int x8, .int x9, .int (xI μ r0_0 x9.toNatClampNeg)] [.int (w 20059), .int (xI μ r0_0 x9.toNatClampNeg)] μ
      refine g_icmp_eq (pc' := 89) (off := 7) (by decide) (by decide +kernel) (fun hc => ?_) (fun hc => ?_)
      · replace h := h.1 hc
        show G Γ m_La_worth (d + 1) (0, 0) Q 89 [.ref r0, jk, jk, jk, jk, jk, jk, .int x7, .int x8, .int x9, .int (xI μ r0_0 x9.toNatClampNeg)] [] μ
        refine run_ok (pc' := 288) [(.iconst 0, 0, 0, 0), (.istore 8, 0, 0, 0), (.goto 196, 0, 0, 0)] _ _ _ _ (by decide +kernel) ?_
        show G Γ m_La_worth (d + 1) (0, 0) Q 288 [.ref r0, jk, jk, jk, jk, jk, jk, .int x7, .int (w 0), .int x9, .int (xI μ r0_0 x9.toNatClampNeg)] [] μ
        exact g_wk (ls' := [.ref r0, jk, jk, jk, jk, jk, jk, .int x7, .int (w 0), .int x9]) ⟨Or.inr rfl, Or.inl rfl, Or.inl rfl, Or.inl rfl, Or.inl rfl, Or.inl rfl, Or.inl rfl, Or.inr rfl, Or.inr rfl, Or.inr rfl, trivial⟩ h
      · replace h := h.2 hc
        show G Γ m_La_worth (d + 1) (0, 0) Q 85 [.ref r0, jk, jk, jk, jk, jk, jk, .int x7, .int x8, .int x9, .int (xI μ r0_0 x9.toNatClampNeg)] [] μ
        refine run_ok (pc' := 288) [(.iconst 1, 0, 0, 0), (.goto 4, 0, 0, 0), (.istore 8, 0, 0, 0), (.goto 196, 0, 0, 0)] _ _ _ _ (by decide +kernel) ?_
        show G Γ m_La_worth (d + 1) (0, 0) Q 288 [.ref r0, jk, jk, jk, jk, jk, jk, .int x7, .int (w 1), .int x9, .int (xI μ r0_0 x9.toNatClampNeg)] [] μ
        exact g_wk (ls' := [.ref r0, jk, jk, jk, jk, jk, jk, .int x7, .int (w 1), .int x9]) ⟨Or.inr rfl, Or.inl rfl, Or.inl rfl, Or.inl rfl, Or.inl rfl, Or.inl rfl, Or.inl rfl, Or.inr rfl, Or.inr rfl, Or.inr rfl, trivial⟩ h
set_option maxRecDepth 100000 in
theorem B_La_worth_166 {Γ : XG} {d : Nat} {Q : Option Value → XM → Prop} {r0 r0_2 : Nat} {x7 : Int32} {μ : XM} (o_r0_2 : ob μ r0 2) (e_r0_2 : xR μ r0 2 = some r0_2) (h : ((x7 < w 1 → Q (some (.int (w 0))) μ) ∧ (¬ x7 < w 1 → inb μ 0 r0_2 (x7 - (w 1)) ∧ Q (some (.int (xI μ r0_2 (x7 - (w 1)).toNatClampNeg))) μ))) : G Γ m_La_worth (d + 1) (0, 0) Q 166 [.ref r0, jk, jk, jk, jk, jk, jk, .int x7] [] μ := by
  refine run_ok (pc' := 169) [(.iload 7, 0, 0, 0), (.iconst 1, 0, 0, 0)] _ _ _ _ (by decide +kernel) ?_
  show G Γ m_La_worth (d + 1) (0, 0) Q 169 [.ref r0, jk, jk, jk, jk, jk, jk, .int x7] [.int (w 1), .int x7] μ
  refine g_icmp_ge (pc' := 176) (off := 7) (by decide) (by decide +kernel) (fun hc => ?_) (fun hc => ?_)
  · replace h := h.2 hc
    show G Γ m_La_worth (d + 1) (0, 0) Q 176 [.ref r0, jk, jk, jk, jk, jk, jk, .int x7] [] μ
    obtain ⟨ib1, h⟩ := h
    refine run_ok (pc' := 185) [(.aload_n 0, 0, 0, 0), (.getfield 22, 2, 2, 2), (.iload 7, 0, 0, 0), (.iconst 1, 0, 0, 0), (.isub, 0, 0, 0), (.iaload, 0, 0, 0)] _ _ _ _ (by decide +kernel) ?_
    show _ ∧ (∃ _, _ ∧ (_ ∧ (_)))
    refine ⟨o_r0_2, r0_2, e_r0_2, ib1, ?_⟩
    show G Γ m_La_worth (d + 1) (0, 0) Q 185 [.ref r0, jk, jk, jk, jk, jk, jk, .int x7] [.int (xI μ r0_2 (x7 - (w 1)).toNatClampNeg)] μ
    exact g_reti (by decide +kernel) rfl h
  · replace h := h.1 hc
    show G Γ m_La_worth (d + 1) (0, 0) Q 172 [.ref r0, jk, jk, jk, jk, jk, jk, .int x7] [] μ
    refine run_ok (pc' := 185) [(.iconst 0, 0, 0, 0), (.goto 12, 0, 0, 0)] _ _ _ _ (by decide +kernel) ?_
    show G Γ m_La_worth (d + 1) (0, 0) Q 185 [.ref r0, jk, jk, jk, jk, jk, jk, .int x7] [.int (w 0)] μ
    exact g_reti (by decide +kernel) rfl h
set_option maxRecDepth 100000 in
theorem B_La_worth_288 {Γ : XG} {d : Nat} {Q : Option Value → XM → Prop} {r0 : Nat} {x7 x8 x9 : Int32} {μ : XM}  (h : G Γ m_La_worth (d + 1) (0, 0) Q 54 [.ref r0, jk, jk, jk, jk, jk, jk, .int x7, .int x8, .int (x9 + w 1)] [] μ) : G Γ m_La_worth (d + 1) (0, 0) Q 288 [.ref r0, jk, jk, jk, jk, jk, jk, .int x7, .int x8, .int x9] [] μ := by
  refine run_ok (pc' := 54) [(.iinc 9 1, 0, 0, 0), (.goto (-237), 0, 0, 0)] _ _ _ _ (by decide +kernel) ?_
  show G Γ m_La_worth (d + 1) (0, 0) Q 54 [.ref r0, jk, jk, jk, jk, jk, jk, .int x7, .int x8, .int (x9 + w 1)] [] μ
  exact h
/-! FrostBox$Law joined(III)I -/
set_option maxRecDepth 100000 in
theorem lm_2_108 : Lk_maxL 2 108 := ⟨lwG_in (List.mem_of_getElem? (i := 745) rfl) rfl, lwG_in (List.mem_of_getElem? (i := 746) rfl) rfl, lwG_in (List.mem_of_getElem? (i := 130) rfl) rfl, lwG_in (List.mem_of_getElem? (i := 747) rfl) rfl⟩
set_option maxRecDepth 100000 in
theorem lm_2_102 : Lk_minL 2 102 := ⟨lwG_in (List.mem_of_getElem? (i := 742) rfl) rfl, lwG_in (List.mem_of_getElem? (i := 743) rfl) rfl, lwG_in (List.mem_of_getElem? (i := 130) rfl) rfl, lwG_in (List.mem_of_getElem? (i := 744) rfl) rfl⟩
set_option maxRecDepth 100000 in
theorem B_La_joined_0 {Γ : XG} {d : Nat} {Q : Option Value → XM → Prop} {x0 x1 x2 : Int32} {μ : XM}  (h : (((x0 < w 38 ∨ w 62 < x0) → G Γ m_La_joined (d + 1) (0, 0) Q 214 [jk, jk, jk, .long ((x1 ||| x2).toInt64)] [] μ) ∧ (x0 = w 38 → G Γ m_La_joined (d + 1) (0, 0) Q 214 [jk, jk, jk, .long ((x1 &&& x2).toInt64)] [] μ) ∧ (x0 = w 39 → G Γ m_La_joined (d + 1) (0, 0) Q 214 [jk, jk, jk, .long ((x1 ||| x2).toInt64)] [] μ) ∧ (x0 = w 40 → G Γ m_La_joined (d + 1) (0, 0) Q 214 [jk, jk, jk, .long ((x1 ||| x2).toInt64)] [] μ) ∧ (x0 = w 41 → G Γ m_La_joined (d + 1) (0, 0) Q 214 [jk, jk, jk, .long ((x1 ||| x2).toInt64)] [] μ) ∧ (x0 = w 42 → G Γ m_La_joined (d + 1) (0, 0) Q 214 [jk, jk, jk, .long ((x1.toInt64) * (x2.toInt64))] [] μ) ∧ (x0 = w 43 → G Γ m_La_joined (d + 1) (0, 0) Q 214 [jk, jk, jk, .long ((x1.toInt64) + (x2.toInt64))] [] μ) ∧ (x0 = w 44 → G Γ m_La_joined (d + 1) (0, 0) Q 214 [jk, jk, jk, .long ((x1 ||| x2).toInt64)] [] μ) ∧ (x0 = w 45 → G Γ m_La_joined (d + 1) (0, 0) Q 214 [jk, jk, jk, .long ((x1.toInt64) - (x2.toInt64))] [] μ) ∧ (x0 = w 46 → G Γ m_La_joined (d + 1) (0, 0) Q 214 [jk, jk, jk, .long ((x1 ||| x2).toInt64)] [] μ) ∧ (x0 = w 47 → ((x2 = w 0 → G Γ m_La_joined (d + 1) (0, 0) Q 214 [jk, jk, jk, .long (wl 0)] [] μ) ∧ (¬ x2 = w 0 → ¬ x2 = 0 ∧ G Γ m_La_joined (d + 1) (0, 0) Q 214 [jk, jk, jk, .long ((x1 / x2).toInt64)] [] μ))) ∧ (x0 = w 48 → G Γ m_La_joined (d + 1) (0, 0) Q 214 [jk, jk, jk, .long ((x1 ||| x2).toInt64)] [] μ) ∧ (x0 = w 49 → G Γ m_La_joined (d + 1) (0, 0) Q 214 [jk, jk, jk, .long ((x1 ||| x2).toInt64)] [] μ) ∧ (x0 = w 50 → G Γ m_La_joined (d + 1) (0, 0) Q 214 [jk, jk, jk, .long ((x1 ||| x2).toInt64)] [] μ) ∧ (x0 = w 51 → G Γ m_La_joined (d + 1) (0, 0) Q 214 [jk, jk, jk, .long ((x1 ||| x2).toInt64)] [] μ) ∧ (x0 = w 52 → G Γ m_La_joined (d + 1) (0, 0) Q 214 [jk, jk, jk, .long ((x1 ||| x2).toInt64)] [] μ) ∧ (x0 = w 53 → G Γ m_La_joined (d + 1) (0, 0) Q 214 [jk, jk, jk, .long ((x1 ||| x2).toInt64)] [] μ) ∧ (x0 = w 54 → G Γ m_La_joined (d + 1) (0, 0) Q 214 [jk, jk, jk, .long ((x1 ||| x2).toInt64)] [] μ) ∧ (x0 = w 55 → G Γ m_La_joined (d + 1) (0, 0) Q 214 [jk, jk, jk, .long ((x1 ||| x2).toInt64)] [] μ) ∧ (x0 = w 56 → G Γ m_La_joined (d + 1) (0, 0) Q 214 [jk, jk, jk, .long ((x1 ||| x2).toInt64)] [] μ) ∧ (x0 = w 57 → G Γ m_La_joined (d + 1) (0, 0) Q 214 [jk, jk, jk, .long ((x1 ||| x2).toInt64)] [] μ) ∧ (x0 = w 58 → G Γ m_La_joined (d + 1) (0, 0) Q 214 [jk, jk, jk, .long ((x1 ||| x2).toInt64)] [] μ) ∧ (x0 = w 59 → G Γ m_La_joined (d + 1) (0, 0) Q 214 [jk, jk, jk, .long ((x1 ||| x2).toInt64)] [] μ) ∧ (x0 = w 60 → ((x1 < x2 → G Γ m_La_joined (d + 1) (0, 0) Q 214 [jk, jk, jk, .long (wl 1)] [] μ) ∧ (¬ x1 < x2 → G Γ m_La_joined (d + 1) (0, 0) Q 214 [jk, jk, jk, .long (wl 0)] [] μ))) ∧ (x0 = w 61 → ((x1 = x2 → G Γ m_La_joined (d + 1) (0, 0) Q 214 [jk, jk, jk, .long (wl 1)] [] μ) ∧ (¬ x1 = x2 → G Γ m_La_joined (d + 1) (0, 0) Q 214 [jk, jk, jk, .long (wl 0)] [] μ))) ∧ (x0 = w 62 → ((x2 < x1 → G Γ m_La_joined (d + 1) (0, 0) Q 214 [jk, jk, jk, .long (wl 1)] [] μ) ∧ (¬ x2 < x1 → G Γ m_La_joined (d + 1) (0, 0) Q 214 [jk, jk, jk, .long (wl 0)] [] μ))))) : G Γ m_La_joined (d + 1) (0, 0) Q 0 [.int x0, .int x1, .int x2] [] μ := by
  refine run_ok (pc' := 1) [(.iload_n 0, 0, 0, 0)] _ _ _ _ (by decide +kernel) ?_
  show G Γ m_La_joined (d + 1) (0, 0) Q 1 [.int x0, .int x1, .int x2] [.int x0] μ
  refine g_sw (df := 208) (lo := 38) (n := 25) (offs := #[200, 208, 208, 208, 133, 115, 208, 124, 208, 142, 208, 208, 208, 208, 208, 208, 208, 208, 208, 208, 208, 208, 172, 158, 186]) (len := 115) (by decide +kernel) (by decide) (pd := 209) (by decide) (fun hc => ?_) (fun k hk hc => ?_)
  · replace h := h.1 hc
    show G Γ m_La_joined (d + 1) (0, 0) Q 209 [.int x0, .int x1, .int x2] [] μ
    refine run_ok (pc' := 214) [(.iload_n 1, 0, 0, 0), (.iload_n 2, 0, 0, 0), (.ior, 0, 0, 0), (.i2l, 0, 0, 0), (.lstore_n 3, 0, 0, 0)] _ _ _ _ (by decide +kernel) ?_
    show G Γ m_La_joined (d + 1) (0, 0) Q 214 [.int x0, .int x1, .int x2, .long ((x1 ||| x2).toInt64), jk] [] μ
    exact g_wk (ls' := [jk, jk, jk, .long ((x1 ||| x2).toInt64)]) ⟨Or.inl rfl, Or.inl rfl, Or.inl rfl, Or.inr rfl, trivial⟩ h
  · replace h := h.2
    match k, hk, hc with
    | 0, _, hc =>
      replace h := h.1 hc
      refine ⟨201, 200, rfl, by decide, ?_⟩
      show G Γ m_La_joined (d + 1) (0, 0) Q 201 [.int x0, .int x1, .int x2] [] μ
      refine run_ok (pc' := 214) [(.iload_n 1, 0, 0, 0), (.iload_n 2, 0, 0, 0), (.iand, 0, 0, 0), (.i2l, 0, 0, 0), (.lstore_n 3, 0, 0, 0), (.goto 8, 0, 0, 0)] _ _ _ _ (by decide +kernel) ?_
      show G Γ m_La_joined (d + 1) (0, 0) Q 214 [.int x0, .int x1, .int x2, .long ((x1 &&& x2).toInt64), jk] [] μ
      exact g_wk (ls' := [jk, jk, jk, .long ((x1 &&& x2).toInt64)]) ⟨Or.inl rfl, Or.inl rfl, Or.inl rfl, Or.inr rfl, trivial⟩ h
    | 1, _, hc =>
      replace h := h.2.1 hc
      refine ⟨209, 208, rfl, by decide, ?_⟩
      show G Γ m_La_joined (d + 1) (0, 0) Q 209 [.int x0, .int x1, .int x2] [] μ
      refine run_ok (pc' := 214) [(.iload_n 1, 0, 0, 0), (.iload_n 2, 0, 0, 0), (.ior, 0, 0, 0), (.i2l, 0, 0, 0), (.lstore_n 3, 0, 0, 0)] _ _ _ _ (by decide +kernel) ?_
      show G Γ m_La_joined (d + 1) (0, 0) Q 214 [.int x0, .int x1, .int x2, .long ((x1 ||| x2).toInt64), jk] [] μ
      exact g_wk (ls' := [jk, jk, jk, .long ((x1 ||| x2).toInt64)]) ⟨Or.inl rfl, Or.inl rfl, Or.inl rfl, Or.inr rfl, trivial⟩ h
    | 2, _, hc =>
      replace h := h.2.2.1 hc
      refine ⟨209, 208, rfl, by decide, ?_⟩
      show G Γ m_La_joined (d + 1) (0, 0) Q 209 [.int x0, .int x1, .int x2] [] μ
      refine run_ok (pc' := 214) [(.iload_n 1, 0, 0, 0), (.iload_n 2, 0, 0, 0), (.ior, 0, 0, 0), (.i2l, 0, 0, 0), (.lstore_n 3, 0, 0, 0)] _ _ _ _ (by decide +kernel) ?_
      show G Γ m_La_joined (d + 1) (0, 0) Q 214 [.int x0, .int x1, .int x2, .long ((x1 ||| x2).toInt64), jk] [] μ
      exact g_wk (ls' := [jk, jk, jk, .long ((x1 ||| x2).toInt64)]) ⟨Or.inl rfl, Or.inl rfl, Or.inl rfl, Or.inr rfl, trivial⟩ h
    | 3, _, hc =>
      replace h := h.2.2.2.1 hc
      refine ⟨209, 208, rfl, by decide, ?_⟩
      show G Γ m_La_joined (d + 1) (0, 0) Q 209 [.int x0, .int x1, .int x2] [] μ
      refine run_ok (pc' := 214) [(.iload_n 1, 0, 0, 0), (.iload_n 2, 0, 0, 0), (.ior, 0, 0, 0), (.i2l, 0, 0, 0), (.lstore_n 3, 0, 0, 0)] _ _ _ _ (by decide +kernel) ?_
      show G Γ m_La_joined (d + 1) (0, 0) Q 214 [.int x0, .int x1, .int x2, .long ((x1 ||| x2).toInt64), jk] [] μ
      exact g_wk (ls' := [jk, jk, jk, .long ((x1 ||| x2).toInt64)]) ⟨Or.inl rfl, Or.inl rfl, Or.inl rfl, Or.inr rfl, trivial⟩ h
    | 4, _, hc =>
      replace h := h.2.2.2.2.1 hc
      refine ⟨134, 133, rfl, by decide, ?_⟩
      show G Γ m_La_joined (d + 1) (0, 0) Q 134 [.int x0, .int x1, .int x2] [] μ
      refine run_ok (pc' := 214) [(.iload_n 1, 0, 0, 0), (.i2l, 0, 0, 0), (.iload_n 2, 0, 0, 0), (.i2l, 0, 0, 0), (.lmul, 0, 0, 0), (.lstore_n 3, 0, 0, 0), (.goto 74, 0, 0, 0)] _ _ _ _ (by decide +kernel) ?_
      show G Γ m_La_joined (d + 1) (0, 0) Q 214 [.int x0, .int x1, .int x2, .long ((x1.toInt64) * (x2.toInt64)), jk] [] μ
      exact g_wk (ls' := [jk, jk, jk, .long ((x1.toInt64) * (x2.toInt64))]) ⟨Or.inl rfl, Or.inl rfl, Or.inl rfl, Or.inr rfl, trivial⟩ h
    | 5, _, hc =>
      replace h := h.2.2.2.2.2.1 hc
      refine ⟨116, 115, rfl, by decide, ?_⟩
      show G Γ m_La_joined (d + 1) (0, 0) Q 116 [.int x0, .int x1, .int x2] [] μ
      refine run_ok (pc' := 214) [(.iload_n 1, 0, 0, 0), (.i2l, 0, 0, 0), (.iload_n 2, 0, 0, 0), (.i2l, 0, 0, 0), (.ladd, 0, 0, 0), (.lstore_n 3, 0, 0, 0), (.goto 92, 0, 0, 0)] _ _ _ _ (by decide +kernel) ?_
      show G Γ m_La_joined (d + 1) (0, 0) Q 214 [.int x0, .int x1, .int x2, .long ((x1.toInt64) + (x2.toInt64)), jk] [] μ
      exact g_wk (ls' := [jk, jk, jk, .long ((x1.toInt64) + (x2.toInt64))]) ⟨Or.inl rfl, Or.inl rfl, Or.inl rfl, Or.inr rfl, trivial⟩ h
    | 6, _, hc =>
      replace h := h.2.2.2.2.2.2.1 hc
      refine ⟨209, 208, rfl, by decide, ?_⟩
      show G Γ m_La_joined (d + 1) (0, 0) Q 209 [.int x0, .int x1, .int x2] [] μ
      refine run_ok (pc' := 214) [(.iload_n 1, 0, 0, 0), (.iload_n 2, 0, 0, 0), (.ior, 0, 0, 0), (.i2l, 0, 0, 0), (.lstore_n 3, 0, 0, 0)] _ _ _ _ (by decide +kernel) ?_
      show G Γ m_La_joined (d + 1) (0, 0) Q 214 [.int x0, .int x1, .int x2, .long ((x1 ||| x2).toInt64), jk] [] μ
      exact g_wk (ls' := [jk, jk, jk, .long ((x1 ||| x2).toInt64)]) ⟨Or.inl rfl, Or.inl rfl, Or.inl rfl, Or.inr rfl, trivial⟩ h
    | 7, _, hc =>
      replace h := h.2.2.2.2.2.2.2.1 hc
      refine ⟨125, 124, rfl, by decide, ?_⟩
      show G Γ m_La_joined (d + 1) (0, 0) Q 125 [.int x0, .int x1, .int x2] [] μ
      refine run_ok (pc' := 214) [(.iload_n 1, 0, 0, 0), (.i2l, 0, 0, 0), (.iload_n 2, 0, 0, 0), (.i2l, 0, 0, 0), (.lsub, 0, 0, 0), (.lstore_n 3, 0, 0, 0), (.goto 83, 0, 0, 0)] _ _ _ _ (by decide +kernel) ?_
      show G Γ m_La_joined (d + 1) (0, 0) Q 214 [.int x0, .int x1, .int x2, .long ((x1.toInt64) - (x2.toInt64)), jk] [] μ
      exact g_wk (ls' := [jk, jk, jk, .long ((x1.toInt64) - (x2.toInt64))]) ⟨Or.inl rfl, Or.inl rfl, Or.inl rfl, Or.inr rfl, trivial⟩ h
    | 8, _, hc =>
      replace h := h.2.2.2.2.2.2.2.2.1 hc
      refine ⟨209, 208, rfl, by decide, ?_⟩
      show G Γ m_La_joined (d + 1) (0, 0) Q 209 [.int x0, .int x1, .int x2] [] μ
      refine run_ok (pc' := 214) [(.iload_n 1, 0, 0, 0), (.iload_n 2, 0, 0, 0), (.ior, 0, 0, 0), (.i2l, 0, 0, 0), (.lstore_n 3, 0, 0, 0)] _ _ _ _ (by decide +kernel) ?_
      show G Γ m_La_joined (d + 1) (0, 0) Q 214 [.int x0, .int x1, .int x2, .long ((x1 ||| x2).toInt64), jk] [] μ
      exact g_wk (ls' := [jk, jk, jk, .long ((x1 ||| x2).toInt64)]) ⟨Or.inl rfl, Or.inl rfl, Or.inl rfl, Or.inr rfl, trivial⟩ h
    | 9, _, hc =>
      replace h := h.2.2.2.2.2.2.2.2.2.1 hc
      refine ⟨143, 142, rfl, by decide, ?_⟩
      show G Γ m_La_joined (d + 1) (0, 0) Q 143 [.int x0, .int x1, .int x2] [] μ
      refine run_ok (pc' := 144) [(.iload_n 2, 0, 0, 0)] _ _ _ _ (by decide +kernel) ?_
      show G Γ m_La_joined (d + 1) (0, 0) Q 144 [.int x0, .int x1, .int x2] [.int x2] μ
      refine g_ifz_ne (pc' := 151) (off := 7) (by decide) (by decide +kernel) (fun hc => ?_) (fun hc => ?_)
      · replace h := h.2 hc
        show G Γ m_La_joined (d + 1) (0, 0) Q 151 [.int x0, .int x1, .int x2] [] μ
        obtain ⟨nz1, h⟩ := h
        refine run_ok (pc' := 214) [(.iload_n 1, 0, 0, 0), (.iload_n 2, 0, 0, 0), (.idiv, 0, 0, 0), (.i2l, 0, 0, 0), (.lstore_n 3, 0, 0, 0), (.goto 58, 0, 0, 0)] _ _ _ _ (by decide +kernel) ?_
        show _ ∧ (_)
        refine ⟨nz1, ?_⟩
        show G Γ m_La_joined (d + 1) (0, 0) Q 214 [.int x0, .int x1, .int x2, .long ((x1 / x2).toInt64), jk] [] μ
        exact g_wk (ls' := [jk, jk, jk, .long ((x1 / x2).toInt64)]) ⟨Or.inl rfl, Or.inl rfl, Or.inl rfl, Or.inr rfl, trivial⟩ h
      · replace h := h.1 hc
        show G Γ m_La_joined (d + 1) (0, 0) Q 147 [.int x0, .int x1, .int x2] [] μ
        refine run_ok (pc' := 214) [(.lconst 0, 0, 0, 0), (.goto 7, 0, 0, 0), (.lstore_n 3, 0, 0, 0), (.goto 58, 0, 0, 0)] _ _ _ _ (by decide +kernel) ?_
        show G Γ m_La_joined (d + 1) (0, 0) Q 214 [.int x0, .int x1, .int x2, .long (wl 0), jk] [] μ
        exact g_wk (ls' := [jk, jk, jk, .long (wl 0)]) ⟨Or.inl rfl, Or.inl rfl, Or.inl rfl, Or.inr rfl, trivial⟩ h
    | 10, _, hc =>
      replace h := h.2.2.2.2.2.2.2.2.2.2.1 hc
      refine ⟨209, 208, rfl, by decide, ?_⟩
      show G Γ m_La_joined (d + 1) (0, 0) Q 209 [.int x0, .int x1, .int x2] [] μ
      refine run_ok (pc' := 214) [(.iload_n 1, 0, 0, 0), (.iload_n 2, 0, 0, 0), (.ior, 0, 0, 0), (.i2l, 0, 0, 0), (.lstore_n 3, 0, 0, 0)] _ _ _ _ (by decide +kernel) ?_
      show G Γ m_La_joined (d + 1) (0, 0) Q 214 [.int x0, .int x1, .int x2, .long ((x1 ||| x2).toInt64), jk] [] μ
      exact g_wk (ls' := [jk, jk, jk, .long ((x1 ||| x2).toInt64)]) ⟨Or.inl rfl, Or.inl rfl, Or.inl rfl, Or.inr rfl, trivial⟩ h
    | 11, _, hc =>
      replace h := h.2.2.2.2.2.2.2.2.2.2.2.1 hc
      refine ⟨209, 208, rfl, by decide, ?_⟩
      show G Γ m_La_joined (d + 1) (0, 0) Q 209 [.int x0, .int x1, .int x2] [] μ
      refine run_ok (pc' := 214) [(.iload_n 1, 0, 0, 0), (.iload_n 2, 0, 0, 0), (.ior, 0, 0, 0), (.i2l, 0, 0, 0), (.lstore_n 3, 0, 0, 0)] _ _ _ _ (by decide +kernel) ?_
      show G Γ m_La_joined (d + 1) (0, 0) Q 214 [.int x0, .int x1, .int x2, .long ((x1 ||| x2).toInt64), jk] [] μ
      exact g_wk (ls' := [jk, jk, jk, .long ((x1 ||| x2).toInt64)]) ⟨Or.inl rfl, Or.inl rfl, Or.inl rfl, Or.inr rfl, trivial⟩ h
    | 12, _, hc =>
      replace h := h.2.2.2.2.2.2.2.2.2.2.2.2.1 hc
      refine ⟨209, 208, rfl, by decide, ?_⟩
      show G Γ m_La_joined (d + 1) (0, 0) Q 209 [.int x0, .int x1, .int x2] [] μ
      refine run_ok (pc' := 214) [(.iload_n 1, 0, 0, 0), (.iload_n 2, 0, 0, 0), (.ior, 0, 0, 0), (.i2l, 0, 0, 0), (.lstore_n 3, 0, 0, 0)] _ _ _ _ (by decide +kernel) ?_
      show G Γ m_La_joined (d + 1) (0, 0) Q 214 [.int x0, .int x1, .int x2, .long ((x1 ||| x2).toInt64), jk] [] μ
      exact g_wk (ls' := [jk, jk, jk, .long ((x1 ||| x2).toInt64)]) ⟨Or.inl rfl, Or.inl rfl, Or.inl rfl, Or.inr rfl, trivial⟩ h
    | 13, _, hc =>
      replace h := h.2.2.2.2.2.2.2.2.2.2.2.2.2.1 hc
      refine ⟨209, 208, rfl, by decide, ?_⟩
      show G Γ m_La_joined (d + 1) (0, 0) Q 209 [.int x0, .int x1, .int x2] [] μ
      refine run_ok (pc' := 214) [(.iload_n 1, 0, 0, 0), (.iload_n 2, 0, 0, 0), (.ior, 0, 0, 0), (.i2l, 0, 0, 0), (.lstore_n 3, 0, 0, 0)] _ _ _ _ (by decide +kernel) ?_
      show G Γ m_La_joined (d + 1) (0, 0) Q 214 [.int x0, .int x1, .int x2, .long ((x1 ||| x2).toInt64), jk] [] μ
      exact g_wk (ls' := [jk, jk, jk, .long ((x1 ||| x2).toInt64)]) ⟨Or.inl rfl, Or.inl rfl, Or.inl rfl, Or.inr rfl, trivial⟩ h
    | 14, _, hc =>
      replace h := h.2.2.2.2.2.2.2.2.2.2.2.2.2.2.1 hc
      refine ⟨209, 208, rfl, by decide, ?_⟩
      show G Γ m_La_joined (d + 1) (0, 0) Q 209 [.int x0, .int x1, .int x2] [] μ
      refine run_ok (pc' := 214) [(.iload_n 1, 0, 0, 0), (.iload_n 2, 0, 0, 0), (.ior, 0, 0, 0), (.i2l, 0, 0, 0), (.lstore_n 3, 0, 0, 0)] _ _ _ _ (by decide +kernel) ?_
      show G Γ m_La_joined (d + 1) (0, 0) Q 214 [.int x0, .int x1, .int x2, .long ((x1 ||| x2).toInt64), jk] [] μ
      exact g_wk (ls' := [jk, jk, jk, .long ((x1 ||| x2).toInt64)]) ⟨Or.inl rfl, Or.inl rfl, Or.inl rfl, Or.inr rfl, trivial⟩ h
    | 15, _, hc =>
      replace h := h.2.2.2.2.2.2.2.2.2.2.2.2.2.2.2.1 hc
      refine ⟨209, 208, rfl, by decide, ?_⟩
      show G Γ m_La_joined (d + 1) (0, 0) Q 209 [.int x0, .int x1, .int x2] [] μ
      refine run_ok (pc' := 214) [(.iload_n 1, 0, 0, 0), (.iload_n 2, 0, 0, 0), (.ior, 0, 0, 0), (.i2l, 0, 0, 0), (.lstore_n 3, 0, 0, 0)] _ _ _ _ (by decide +kernel) ?_
      show G Γ m_La_joined (d + 1) (0, 0) Q 214 [.int x0, .int x1, .int x2, .long ((x1 ||| x2).toInt64), jk] [] μ
      exact g_wk (ls' := [jk, jk, jk, .long ((x1 ||| x2).toInt64)]) ⟨Or.inl rfl, Or.inl rfl, Or.inl rfl, Or.inr rfl, trivial⟩ h
    | 16, _, hc =>
      replace h := h.2.2.2.2.2.2.2.2.2.2.2.2.2.2.2.2.1 hc
      refine ⟨209, 208, rfl, by decide, ?_⟩
      show G Γ m_La_joined (d + 1) (0, 0) Q 209 [.int x0, .int x1, .int x2] [] μ
      refine run_ok (pc' := 214) [(.iload_n 1, 0, 0, 0), (.iload_n 2, 0, 0, 0), (.ior, 0, 0, 0), (.i2l, 0, 0, 0), (.lstore_n 3, 0, 0, 0)] _ _ _ _ (by decide +kernel) ?_
      show G Γ m_La_joined (d + 1) (0, 0) Q 214 [.int x0, .int x1, .int x2, .long ((x1 ||| x2).toInt64), jk] [] μ
      exact g_wk (ls' := [jk, jk, jk, .long ((x1 ||| x2).toInt64)]) ⟨Or.inl rfl, Or.inl rfl, Or.inl rfl, Or.inr rfl, trivial⟩ h
    | 17, _, hc =>
      replace h := h.2.2.2.2.2.2.2.2.2.2.2.2.2.2.2.2.2.1 hc
      refine ⟨209, 208, rfl, by decide, ?_⟩
      show G Γ m_La_joined (d + 1) (0, 0) Q 209 [.int x0, .int x1, .int x2] [] μ
      refine run_ok (pc' := 214) [(.iload_n 1, 0, 0, 0), (.iload_n 2, 0, 0, 0), (.ior, 0, 0, 0), (.i2l, 0, 0, 0), (.lstore_n 3, 0, 0, 0)] _ _ _ _ (by decide +kernel) ?_
      show G Γ m_La_joined (d + 1) (0, 0) Q 214 [.int x0, .int x1, .int x2, .long ((x1 ||| x2).toInt64), jk] [] μ
      exact g_wk (ls' := [jk, jk, jk, .long ((x1 ||| x2).toInt64)]) ⟨Or.inl rfl, Or.inl rfl, Or.inl rfl, Or.inr rfl, trivial⟩ h
    | 18, _, hc =>
      replace h := h.2.2.2.2.2.2.2.2.2.2.2.2.2.2.2.2.2.2.1 hc
      refine ⟨209, 208, rfl, by decide, ?_⟩
      show G Γ m_La_joined (d + 1) (0, 0) Q 209 [.int x0, .int x1, .int x2] [] μ
      refine run_ok (pc' := 214) [(.iload_n 1, 0, 0, 0), (.iload_n 2, 0, 0, 0), (.ior, 0, 0, 0), (.i2l, 0, 0, 0), (.lstore_n 3, 0, 0, 0)] _ _ _ _ (by decide +kernel) ?_
      show G Γ m_La_joined (d + 1) (0, 0) Q 214 [.int x0, .int x1, .int x2, .long ((x1 ||| x2).toInt64), jk] [] μ
      exact g_wk (ls' := [jk, jk, jk, .long ((x1 ||| x2).toInt64)]) ⟨Or.inl rfl, Or.inl rfl, Or.inl rfl, Or.inr rfl, trivial⟩ h
    | 19, _, hc =>
      replace h := h.2.2.2.2.2.2.2.2.2.2.2.2.2.2.2.2.2.2.2.1 hc
      refine ⟨209, 208, rfl, by decide, ?_⟩
      show G Γ m_La_joined (d + 1) (0, 0) Q 209 [.int x0, .int x1, .int x2] [] μ
      refine run_ok (pc' := 214) [(.iload_n 1, 0, 0, 0), (.iload_n 2, 0, 0, 0), (.ior, 0, 0, 0), (.i2l, 0, 0, 0), (.lstore_n 3, 0, 0, 0)] _ _ _ _ (by decide +kernel) ?_
      show G Γ m_La_joined (d + 1) (0, 0) Q 214 [.int x0, .int x1, .int x2, .long ((x1 ||| x2).toInt64), jk] [] μ
      exact g_wk (ls' := [jk, jk, jk, .long ((x1 ||| x2).toInt64)]) ⟨Or.inl rfl, Or.inl rfl, Or.inl rfl, Or.inr rfl, trivial⟩ h
    | 20, _, hc =>
      replace h := h.2.2.2.2.2.2.2.2.2.2.2.2.2.2.2.2.2.2.2.2.1 hc
      refine ⟨209, 208, rfl, by decide, ?_⟩
      show G Γ m_La_joined (d + 1) (0, 0) Q 209 [.int x0, .int x1, .int x2] [] μ
      refine run_ok (pc' := 214) [(.iload_n 1, 0, 0, 0), (.iload_n 2, 0, 0, 0), (.ior, 0, 0, 0), (.i2l, 0, 0, 0), (.lstore_n 3, 0, 0, 0)] _ _ _ _ (by decide +kernel) ?_
      show G Γ m_La_joined (d + 1) (0, 0) Q 214 [.int x0, .int x1, .int x2, .long ((x1 ||| x2).toInt64), jk] [] μ
      exact g_wk (ls' := [jk, jk, jk, .long ((x1 ||| x2).toInt64)]) ⟨Or.inl rfl, Or.inl rfl, Or.inl rfl, Or.inr rfl, trivial⟩ h
    | 21, _, hc =>
      replace h := h.2.2.2.2.2.2.2.2.2.2.2.2.2.2.2.2.2.2.2.2.2.1 hc
      refine ⟨209, 208, rfl, by decide, ?_⟩
      show G Γ m_La_joined (d + 1) (0, 0) Q 209 [.int x0, .int x1, .int x2] [] μ
      refine run_ok (pc' := 214) [(.iload_n 1, 0, 0, 0), (.iload_n 2, 0, 0, 0), (.ior, 0, 0, 0), (.i2l, 0, 0, 0), (.lstore_n 3, 0, 0, 0)] _ _ _ _ (by decide +kernel) ?_
      show G Γ m_La_joined (d + 1) (0, 0) Q 214 [.int x0, .int x1, .int x2, .long ((x1 ||| x2).toInt64), jk] [] μ
      exact g_wk (ls' := [jk, jk, jk, .long ((x1 ||| x2).toInt64)]) ⟨Or.inl rfl, Or.inl rfl, Or.inl rfl, Or.inr rfl, trivial⟩ h
    | 22, _, hc =>
      replace h := h.2.2.2.2.2.2.2.2.2.2.2.2.2.2.2.2.2.2.2.2.2.2.1 hc
      refine ⟨173, 172, rfl, by decide, ?_⟩
      show G Γ m_La_joined (d + 1) (0, 0) Q 173 [.int x0, .int x1, .int x2] [] μ
      refine run_ok (pc' := 175) [(.iload_n 1, 0, 0, 0), (.iload_n 2, 0, 0, 0)] _ _ _ _ (by decide +kernel) ?_
      show G Γ m_La_joined (d + 1) (0, 0) Q 175 [.int x0, .int x1, .int x2] [.int x2, .int x1] μ
      refine g_icmp_ge (pc' := 182) (off := 7) (by decide) (by decide +kernel) (fun hc => ?_) (fun hc => ?_)
      · replace h := h.2 hc
        show G Γ m_La_joined (d + 1) (0, 0) Q 182 [.int x0, .int x1, .int x2] [] μ
        refine run_ok (pc' := 214) [(.lconst 0, 0, 0, 0), (.lstore_n 3, 0, 0, 0), (.goto 30, 0, 0, 0)] _ _ _ _ (by decide +kernel) ?_
        show G Γ m_La_joined (d + 1) (0, 0) Q 214 [.int x0, .int x1, .int x2, .long (wl 0), jk] [] μ
        exact g_wk (ls' := [jk, jk, jk, .long (wl 0)]) ⟨Or.inl rfl, Or.inl rfl, Or.inl rfl, Or.inr rfl, trivial⟩ h
      · replace h := h.1 hc
        show G Γ m_La_joined (d + 1) (0, 0) Q 178 [.int x0, .int x1, .int x2] [] μ
        refine run_ok (pc' := 214) [(.lconst 1, 0, 0, 1), (.goto 4, 0, 0, 0), (.lstore_n 3, 0, 0, 0), (.goto 30, 0, 0, 0)] _ _ _ _ (by decide +kernel) ?_
        show G Γ m_La_joined (d + 1) (0, 0) Q 214 [.int x0, .int x1, .int x2, .long (wl 1), jk] [] μ
        exact g_wk (ls' := [jk, jk, jk, .long (wl 1)]) ⟨Or.inl rfl, Or.inl rfl, Or.inl rfl, Or.inr rfl, trivial⟩ h
    | 23, _, hc =>
      replace h := h.2.2.2.2.2.2.2.2.2.2.2.2.2.2.2.2.2.2.2.2.2.2.2.1 hc
      refine ⟨159, 158, rfl, by decide, ?_⟩
      show G Γ m_La_joined (d + 1) (0, 0) Q 159 [.int x0, .int x1, .int x2] [] μ
      refine run_ok (pc' := 161) [(.iload_n 1, 0, 0, 0), (.iload_n 2, 0, 0, 0)] _ _ _ _ (by decide +kernel) ?_
      show G Γ m_La_joined (d + 1) (0, 0) Q 161 [.int x0, .int x1, .int x2] [.int x2, .int x1] μ
      refine g_icmp_ne (pc' := 168) (off := 7) (by decide) (by decide +kernel) (fun hc => ?_) (fun hc => ?_)
      · replace h := h.2 hc
        show G Γ m_La_joined (d + 1) (0, 0) Q 168 [.int x0, .int x1, .int x2] [] μ
        refine run_ok (pc' := 214) [(.lconst 0, 0, 0, 0), (.lstore_n 3, 0, 0, 0), (.goto 44, 0, 0, 0)] _ _ _ _ (by decide +kernel) ?_
        show G Γ m_La_joined (d + 1) (0, 0) Q 214 [.int x0, .int x1, .int x2, .long (wl 0), jk] [] μ
        exact g_wk (ls' := [jk, jk, jk, .long (wl 0)]) ⟨Or.inl rfl, Or.inl rfl, Or.inl rfl, Or.inr rfl, trivial⟩ h
      · replace h := h.1 hc
        show G Γ m_La_joined (d + 1) (0, 0) Q 164 [.int x0, .int x1, .int x2] [] μ
        refine run_ok (pc' := 214) [(.lconst 1, 0, 0, 1), (.goto 4, 0, 0, 0), (.lstore_n 3, 0, 0, 0), (.goto 44, 0, 0, 0)] _ _ _ _ (by decide +kernel) ?_
        show G Γ m_La_joined (d + 1) (0, 0) Q 214 [.int x0, .int x1, .int x2, .long (wl 1), jk] [] μ
        exact g_wk (ls' := [jk, jk, jk, .long (wl 1)]) ⟨Or.inl rfl, Or.inl rfl, Or.inl rfl, Or.inr rfl, trivial⟩ h
    | 24, _, hc =>
      replace h := h.2.2.2.2.2.2.2.2.2.2.2.2.2.2.2.2.2.2.2.2.2.2.2.2 hc
      refine ⟨187, 186, rfl, by decide, ?_⟩
      show G Γ m_La_joined (d + 1) (0, 0) Q 187 [.int x0, .int x1, .int x2] [] μ
      refine run_ok (pc' := 189) [(.iload_n 1, 0, 0, 0), (.iload_n 2, 0, 0, 0)] _ _ _ _ (by decide +kernel) ?_
      show G Γ m_La_joined (d + 1) (0, 0) Q 189 [.int x0, .int x1, .int x2] [.int x2, .int x1] μ
      refine g_icmp_le (pc' := 196) (off := 7) (by decide) (by decide +kernel) (fun hc => ?_) (fun hc => ?_)
      · replace h := h.2 hc
        show G Γ m_La_joined (d + 1) (0, 0) Q 196 [.int x0, .int x1, .int x2] [] μ
        refine run_ok (pc' := 214) [(.lconst 0, 0, 0, 0), (.lstore_n 3, 0, 0, 0), (.goto 16, 0, 0, 0)] _ _ _ _ (by decide +kernel) ?_
        show G Γ m_La_joined (d + 1) (0, 0) Q 214 [.int x0, .int x1, .int x2, .long (wl 0), jk] [] μ
        exact g_wk (ls' := [jk, jk, jk, .long (wl 0)]) ⟨Or.inl rfl, Or.inl rfl, Or.inl rfl, Or.inr rfl, trivial⟩ h
      · replace h := h.1 hc
        show G Γ m_La_joined (d + 1) (0, 0) Q 192 [.int x0, .int x1, .int x2] [] μ
        refine run_ok (pc' := 214) [(.lconst 1, 0, 0, 1), (.goto 4, 0, 0, 0), (.lstore_n 3, 0, 0, 0), (.goto 16, 0, 0, 0)] _ _ _ _ (by decide +kernel) ?_
        show G Γ m_La_joined (d + 1) (0, 0) Q 214 [.int x0, .int x1, .int x2, .long (wl 1), jk] [] μ
        exact g_wk (ls' := [jk, jk, jk, .long (wl 1)]) ⟨Or.inl rfl, Or.inl rfl, Or.inl rfl, Or.inr rfl, trivial⟩ h
    | k + 25, hk, _ => exact absurd hk (by omega)
set_option maxRecDepth 100000 in
theorem B_La_joined_214 {Γ : XG} {d : Nat} {Q : Option Value → XM → Prop} {y3 : Int64} {μ : XM}  (h : Q (some (.int ((jmaxL (wl (-1000000)) (jminL (wl 1000000) y3)).toInt32))) μ) : G Γ m_La_joined (d + 1) (0, 0) Q 214 [jk, jk, jk, .long y3] [] μ := by
  refine run_ok (pc' := 221) [(.ldc2_w 98, 0, 0, (-1000000)), (.ldc2_w 100, 0, 0, 1000000), (.lload_n 3, 0, 0, 0)] _ _ _ _ (by decide +kernel) ?_
  show G Γ m_La_joined (d + 1) (0, 0) Q 221 [jk, jk, jk, .long y3] [.long y3, .long (wl 1000000), .long (wl (-1000000))] μ
  refine g_minL (i := 102) lm_2_102 (Nat.le_of_ble_eq_true rfl) (by decide +kernel) ?_
  show G Γ m_La_joined (d + 1) (0, 0) Q 224 [jk, jk, jk, .long y3] [.long (jminL (wl 1000000) y3), .long (wl (-1000000))] μ
  refine g_maxL (i := 108) lm_2_108 (Nat.le_of_ble_eq_true rfl) (by decide +kernel) ?_
  show G Γ m_La_joined (d + 1) (0, 0) Q 227 [jk, jk, jk, .long y3] [.long (jmaxL (wl (-1000000)) (jminL (wl 1000000) y3))] μ
  refine run_ok (pc' := 228) [(.l2i, 0, 0, 0)] _ _ _ _ (by decide +kernel) ?_
  show G Γ m_La_joined (d + 1) (0, 0) Q 228 [jk, jk, jk, .long y3] [.int ((jmaxL (wl (-1000000)) (jminL (wl 1000000) y3)).toInt32)] μ
  exact g_reti (by decide +kernel) rfl h
