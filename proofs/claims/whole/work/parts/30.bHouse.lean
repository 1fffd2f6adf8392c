/-! FrostBox$House readFrom(LFrostBox$Tape;)Z -/
set_option maxRecDepth 100000 in
theorem lk_1_56 : LkV 1 56 m_Ta_rewind 0 := ⟨lc_Ta_rewind, lwG_in (List.mem_of_getElem? (i := 486) rfl) rfl, lwG_in (List.mem_of_getElem? (i := 487) rfl) rfl, lwG_in (List.mem_of_getElem? (i := 488) rfl) rfl⟩
set_option maxRecDepth 100000 in
theorem lk_1_53 : LkV 1 53 m_Pi_clear 0 := ⟨lc_Pi_clear, lwG_in (List.mem_of_getElem? (i := 482) rfl) rfl, lwG_in (List.mem_of_getElem? (i := 483) rfl) rfl, lwG_in (List.mem_of_getElem? (i := 484) rfl) rfl⟩
set_option maxRecDepth 100000 in
theorem ac_1_47 : Cond.methodLink (cnm 1) 47 arraycopyName ∈ lwG ∧ Cond.native arraycopyName ∈ lwG ∧ Cond.static arraycopyName ∈ lwG ∧ Cond.initialized "java/lang/System" ∈ lwG := ⟨lwG_in (List.mem_of_getElem? (i := 479) rfl) rfl, lwG_in (List.mem_of_getElem? (i := 481) rfl) rfl, lwG_in (List.mem_of_getElem? (i := 480) rfl) rfl, lwG_in (List.mem_of_getElem? (i := 125) rfl) rfl⟩
set_option maxRecDepth 100000 in
theorem lk_1_73 : LkV 1 73 m_Ta_refuse 0 := ⟨lc_Ta_refuse, lwG_in (List.mem_of_getElem? (i := 515) rfl) rfl, lwG_in (List.mem_of_getElem? (i := 516) rfl) rfl, lwG_in (List.mem_of_getElem? (i := 517) rfl) rfl⟩
set_option maxRecDepth 100000 in
theorem lk_1_76 : LkV 1 76 m_Ta_demand 1 := ⟨lc_Ta_demand, lwG_in (List.mem_of_getElem? (i := 556) rfl) rfl, lwG_in (List.mem_of_getElem? (i := 557) rfl) rfl, lwG_in (List.mem_of_getElem? (i := 558) rfl) rfl⟩
set_option maxRecDepth 100000 in
theorem lk_1_69 : LkV 1 69 m_Ho_isWhole 0 := ⟨lc_Ho_isWhole, lwG_in (List.mem_of_getElem? (i := 548) rfl) rfl, lwG_in (List.mem_of_getElem? (i := 550) rfl) rfl, lwG_in (List.mem_of_getElem? (i := 3) rfl) rfl⟩
set_option maxRecDepth 100000 in
theorem lk_1_65 : LkV 1 65 m_Ta_ahead 0 := ⟨lc_Ta_ahead, lwG_in (List.mem_of_getElem? (i := 494) rfl) rfl, lwG_in (List.mem_of_getElem? (i := 495) rfl) rfl, lwG_in (List.mem_of_getElem? (i := 496) rfl) rfl⟩
set_option maxRecDepth 100000 in
theorem lk_1_61 : LkV 1 61 m_Ho_readClause 1 := ⟨lc_Ho_readClause, lwG_in (List.mem_of_getElem? (i := 490) rfl) rfl, lwG_in (List.mem_of_getElem? (i := 492) rfl) rfl, lwG_in (List.mem_of_getElem? (i := 1) rfl) rfl⟩
set_option maxRecDepth 100000 in
theorem B_Ho_readFrom_0 {Γ : XG} {d : Nat} {Q : Option Value → XM → Prop} {r0 r1 r0_0 r0_3 : Nat} {μ : XM} (o_r0_1 : ob μ r0 1) (e_r0_0 : xR μ r0 0 = some r0_0) (e_r0_3 : xR μ r0 3 = some r0_3) (o_r0_3_6 : ob μ r0_3 6) (o_r1_9 : ob μ r1 9) (h : ∀ μ1, μ1 = sI μ r0 4 (w 0) → ∀ μ2, μ2 = sI μ1 r0 5 (w 0) → ∃ n3, ar μ2 0 0 n3 ∧ cpo μ2 0 r0_0 n3 ∧ ∀ μ5, μ5 = sC μ2 0 r0_0 n3 → Call Γ m_Pi_clear (d + 1) [.ref r0_3] μ5 (KV (fun μ6 => Call Γ m_Ta_rewind (d + 1) [.ref r1] μ6 (KV (fun μ7 => G Γ m_Ho_readFrom (d + 2) (0, 0) Q 39 [.ref r0, .ref r1, .int (w 0)] [] μ7))))) : G Γ m_Ho_readFrom (d + 2) (0, 0) Q 0 [.ref r0, .ref r1] [] μ := by
  refine run_ok (pc' := 5) [(.aload_n 0, 0, 0, 0), (.iconst 0, 0, 0, 0), (.putfield 39, 1, 4, 0)] _ _ _ _ (by decide +kernel) ?_
  show _ ∧ (_)
  refine ⟨o_r0_1, ?_⟩
  show G Γ m_Ho_readFrom (d + 2) (0, 0) Q 5 [.ref r0, .ref r1] [] (sI μ r0 4 (w 0))
  obtain ⟨μ1, em1⟩ : ∃ m : XM, m = sI μ r0 4 (w 0) := ⟨_, rfl⟩
  replace h := h μ1 em1
  have hm1 : xN μ ≤ xN μ1 := by rw [em1]; exact Nat.le_refl _
  rw [← em1]
  refine run_ok (pc' := 10) [(.aload_n 0, 0, 0, 0), (.iconst 0, 0, 0, 0), (.putfield 43, 1, 5, 3)] _ _ _ _ (by decide +kernel) ?_
  show _ ∧ (_ ∧ (_))
  refine ⟨((o_r0_1).mono hm1), Or.inl rfl, ?_⟩
  show G Γ m_Ho_readFrom (d + 2) (0, 0) Q 10 [.ref r0, .ref r1] [] (sI μ1 r0 5 (w 0))
  obtain ⟨μ2, em2⟩ : ∃ m : XM, m = sI μ1 r0 5 (w 0) := ⟨_, rfl⟩
  replace h := h μ2 em2
  have hm2 : xN μ1 ≤ xN μ2 := by rw [em2]; exact Nat.le_refl _
  rw [← em2]
  obtain ⟨n3, el3, h⟩ := h
  refine run_ok (pc' := 23) [(.getstatic 9, 1, 0, 0), (.iconst 0, 0, 0, 0), (.aload_n 0, 0, 0, 0), (.getfield 13, 1, 0, 2), (.iconst 0, 0, 0, 0), (.getstatic 9, 1, 0, 0), (.arraylength, 0, 0, 0)] _ _ _ _ (by decide +kernel) ?_
  show _ ∧ (∃ _, _ ∧ (∃ _, _ ∧ (_)))
  refine ⟨(((o_r0_1).mono hm1).mono hm2), r0_0, (by rw [em2]; exact (by rw [em1]; exact e_r0_0)), n3, el3, ?_⟩
  show G Γ m_Ho_readFrom (d + 2) (0, 0) Q 23 [.ref r0, .ref r1] [.int (w n3), .int (w 0), .ref r0_0, .int (w 0), .ref 0] μ2
  obtain ⟨cp4, h⟩ := h
  refine g_cpy (i := 47) (n := n3) ac_1_47.1 ac_1_47.2 (ar_small el3) (Nat.le_of_ble_eq_true rfl) (by decide +kernel) cp4 ?_
  show G Γ m_Ho_readFrom (d + 2) (0, 0) Q 26 [.ref r0, .ref r1] [] (sC μ2 0 r0_0 n3)
  obtain ⟨μ5, em5⟩ : ∃ m : XM, m = sC μ2 0 r0_0 n3 := ⟨_, rfl⟩
  replace h := h μ5 em5
  have hm5 : xN μ2 ≤ xN μ5 := by rw [em5]; exact Nat.le_refl _
  rw [← em5]
  refine run_ok (pc' := 30) [(.aload_n 0, 0, 0, 0), (.getfield 35, 1, 3, 2)] _ _ _ _ (by decide +kernel) ?_
  show _ ∧ (∃ _, _ ∧ (_))
  refine ⟨((((o_r0_1).mono hm1).mono hm2).mono hm5), r0_3, (by rw [em5]; exact (by rw [em2]; exact (by rw [em1]; exact e_r0_3))), ?_⟩
  show G Γ m_Ho_readFrom (d + 2) (0, 0) Q 30 [.ref r0, .ref r1] [.ref r0_3] μ5
  refine g_invV (M' := m_Pi_clear) (b1 := 0) (b2 := 0) (As := []) (a := r0_3) (st := []) lk_1_53 (by decide +kernel) rfl (dk_Pi_clear (d + 1)) (Nat.le_of_ble_eq_true rfl) (Or.inl ⟨6, ((((o_r0_3_6).mono hm1).mono hm2).mono hm5), rfl⟩) h ?_
  rintro _ μ6 ⟨rfl, h⟩ hn6
  show G Γ m_Ho_readFrom (d + 2) (0, 0) Q 33 [.ref r0, .ref r1] [] μ6
  refine run_ok (pc' := 34) [(.aload_n 1, 0, 0, 0)] _ _ _ _ (by decide +kernel) ?_
  show G Γ m_Ho_readFrom (d + 2) (0, 0) Q 34 [.ref r0, .ref r1] [.ref r1] μ6
  refine g_invV (M' := m_Ta_rewind) (b1 := 0) (b2 := 0) (As := []) (a := r1) (st := []) lk_1_56 (by decide +kernel) rfl (dk_Ta_rewind (d + 1)) (Nat.le_of_ble_eq_true rfl) (Or.inl ⟨9, (((((o_r1_9).mono hm1).mono hm2).mono hm5).mono hn6), rfl⟩) h ?_
  rintro _ μ7 ⟨rfl, h⟩ hn7
  show G Γ m_Ho_readFrom (d + 2) (0, 0) Q 37 [.ref r0, .ref r1] [] μ7
  refine run_ok (pc' := 39) [(.iconst 0, 0, 0, 0), (.istore_n 2, 0, 0, 0)] _ _ _ _ (by decide +kernel) ?_
  show G Γ m_Ho_readFrom (d + 2) (0, 0) Q 39 [.ref r0, .ref r1, .int (w 0)] [] μ7
  exact h
set_option maxRecDepth 100000 in
theorem B_Ho_readFrom_39 {Γ : XG} {d : Nat} {Q : Option Value → XM → Prop} {r0 r1 : Nat} {x2 : Int32} {μ : XM} (o_r1_9 : ob μ r1 9) (o_r0_1 : ob μ r0 1) (h : ((w 240 < x2 → Call Γ m_Ta_refuse (d + 1) [.ref r1] μ (KI (fun v1 μ1 => ((v1 = w 0 ∨ v1 = w 1) ∧ Q (some (.int v1)) μ1)))) ∧ (¬ w 240 < x2 → Call Γ m_Ho_readClause (d + 1) [.ref r0, .ref r1] μ (KI (fun v2 μ2 => ((v2 = w 0 → Q (some (.int (w 0))) μ2) ∧ (¬ v2 = w 0 → Call Γ m_Ta_ahead (d + 1) [.ref r1] μ2 (KI (fun v3 μ3 => ((v3 = w (-1) → Call Γ m_Ho_isWhole (d + 1) [.ref r0] μ3 (KI (fun v5 μ5 => ((v5 = w 0 → Call Γ m_Ta_refuse (d + 1) [.ref r1] μ5 (KI (fun v6 μ6 => ((v6 = w 0 → Q (some (.int (w 0))) μ6) ∧ (¬ v6 = w 0 → Q (some (.int (w 1))) μ6))))) ∧ (¬ v5 = w 0 → Q (some (.int (w 1))) μ5))))) ∧ (¬ v3 = w (-1) → Call Γ m_Ta_demand (d + 1) [.ref r1, .int (w 59)] μ3 (KI (fun v4 μ4 => ((v4 = w 0 → Q (some (.int (w 0))) μ4) ∧ (¬ v4 = w 0 → G Γ m_Ho_readFrom (d + 2) (0, 0) Q 39 [.ref r0, .ref r1, .int (x2 + w 1)] [] μ4))))))))))))))) : G Γ m_Ho_readFrom (d + 2) (0, 0) Q 39 [.ref r0, .ref r1, .int x2] [] μ := by
  refine run_ok (pc' := 43) [(.iload_n 2, 0, 0, 0), (.sipush 240, 0, 0, 0)] _ _ _ _ (by decide +kernel) ?_
  show G Γ m_Ho_readFrom (d + 2) (0, 0) Q 43 [.ref r0, .ref r1, .int x2] [.int (w 240), .int x2] μ
  refine g_icmp_gt (pc' := 101) (off := 58) (by decide) (by decide +kernel) (fun hc => ?_) (fun hc => ?_)
  · replace h := h.1 hc
    show G Γ m_Ho_readFrom (d + 2) (0, 0) Q 101 [.ref r0, .ref r1, .int x2] [] μ
    refine run_ok (pc' := 102) [(.aload_n 1, 0, 0, 0)] _ _ _ _ (by decide +kernel) ?_
    show G Γ m_Ho_readFrom (d + 2) (0, 0) Q 102 [.ref r0, .ref r1, .int x2] [.ref r1] μ
    refine g_invV (M' := m_Ta_refuse) (b1 := 0) (b2 := 0) (As := []) (a := r1) (st := []) lk_1_73 (by decide +kernel) rfl (dk_Ta_refuse (d + 1)) (Nat.le_of_ble_eq_true rfl) (Or.inl ⟨9, o_r1_9, rfl⟩) h ?_
    rintro _ μ1 ⟨v1, rfl, h⟩ hn1
    show G Γ m_Ho_readFrom (d + 2) (0, 0) Q 105 [.ref r0, .ref r1, .int x2] [.int v1] μ1
    exact g_retz (by decide +kernel) rfl h.1 h.2
  · replace h := h.2 hc
    show G Γ m_Ho_readFrom (d + 2) (0, 0) Q 46 [.ref r0, .ref r1, .int x2] [] μ
    refine run_ok (pc' := 48) [(.aload_n 0, 0, 0, 0), (.aload_n 1, 0, 0, 0)] _ _ _ _ (by decide +kernel) ?_
    show G Γ m_Ho_readFrom (d + 2) (0, 0) Q 48 [.ref r0, .ref r1, .int x2] [.ref r1, .ref r0] μ
    refine g_invV (M' := m_Ho_readClause) (b1 := 0) (b2 := 0) (As := [.ref r1]) (a := r0) (st := []) lk_1_61 (by decide +kernel) rfl (dk_Ho_readClause (d + 1)) (Nat.le_of_ble_eq_true rfl) (Or.inl ⟨1, o_r0_1, rfl⟩) h ?_
    rintro _ μ2 ⟨v2, rfl, h⟩ hn2
    show G Γ m_Ho_readFrom (d + 2) (0, 0) Q 51 [.ref r0, .ref r1, .int x2] [.int v2] μ2
    refine g_ifz_ne (pc' := 56) (off := 5) (by decide) (by decide +kernel) (fun hc => ?_) (fun hc => ?_)
    · replace h := h.2 hc
      show G Γ m_Ho_readFrom (d + 2) (0, 0) Q 56 [.ref r0, .ref r1, .int x2] [] μ2
      refine run_ok (pc' := 57) [(.aload_n 1, 0, 0, 0)] _ _ _ _ (by decide +kernel) ?_
      show G Γ m_Ho_readFrom (d + 2) (0, 0) Q 57 [.ref r0, .ref r1, .int x2] [.ref r1] μ2
      refine g_invV (M' := m_Ta_ahead) (b1 := 0) (b2 := 0) (As := []) (a := r1) (st := []) lk_1_65 (by decide +kernel) rfl (dk_Ta_ahead (d + 1)) (Nat.le_of_ble_eq_true rfl) (Or.inl ⟨9, ((o_r1_9).mono hn2), rfl⟩) h ?_
      rintro _ μ3 ⟨v3, rfl, h⟩ hn3
      show G Γ m_Ho_readFrom (d + 2) (0, 0) Q 60 [.ref r0, .ref r1, .int x2] [.int v3] μ3
      refine run_ok (pc' := 61) [(.iconst (-1), 0, 0, 0)] _ _ _ _ (by decide +kernel) ?_
      show G Γ m_Ho_readFrom (d + 2) (0, 0) Q 61 [.ref r0, .ref r1, .int x2] [.int (w (-1)), .int v3] μ3
      refine g_icmp_ne (pc' := 84) (off := 23) (by decide) (by decide +kernel) (fun hc => ?_) (fun hc => ?_)
      · replace h := h.2 hc
        show G Γ m_Ho_readFrom (d + 2) (0, 0) Q 84 [.ref r0, .ref r1, .int x2] [] μ3
        refine run_ok (pc' := 87) [(.aload_n 1, 0, 0, 0), (.bipush 59, 0, 0, 0)] _ _ _ _ (by decide +kernel) ?_
        show G Γ m_Ho_readFrom (d + 2) (0, 0) Q 87 [.ref r0, .ref r1, .int x2] [.int (w 59), .ref r1] μ3
        refine g_invV (M' := m_Ta_demand) (b1 := 0) (b2 := 0) (As := [.int (w 59)]) (a := r1) (st := []) lk_1_76 (by decide +kernel) rfl (dk_Ta_demand (d + 1)) (Nat.le_of_ble_eq_true rfl) (Or.inl ⟨9, (((o_r1_9).mono hn2).mono hn3), rfl⟩) h ?_
        rintro _ μ4 ⟨v4, rfl, h⟩ hn4
        show G Γ m_Ho_readFrom (d + 2) (0, 0) Q 90 [.ref r0, .ref r1, .int x2] [.int v4] μ4
        refine g_ifz_ne (pc' := 95) (off := 5) (by decide) (by decide +kernel) (fun hc => ?_) (fun hc => ?_)
        · replace h := h.2 hc
          show G Γ m_Ho_readFrom (d + 2) (0, 0) Q 95 [.ref r0, .ref r1, .int x2] [] μ4
          refine run_ok (pc' := 39) [(.iinc 2 1, 0, 0, 0), (.goto (-59), 0, 0, 0)] _ _ _ _ (by decide +kernel) ?_
          show G Γ m_Ho_readFrom (d + 2) (0, 0) Q 39 [.ref r0, .ref r1, .int (x2 + w 1)] [] μ4
          exact h
        · replace h := h.1 hc
          show G Γ m_Ho_readFrom (d + 2) (0, 0) Q 93 [.ref r0, .ref r1, .int x2] [] μ4
          refine run_ok (pc' := 94) [(.iconst 0, 0, 0, 0)] _ _ _ _ (by decide +kernel) ?_
          show G Γ m_Ho_readFrom (d + 2) (0, 0) Q 94 [.ref r0, .ref r1, .int x2] [.int (w 0)] μ4
          exact g_retz (by decide +kernel) rfl (Or.inl rfl) h
      · replace h := h.1 hc
        show G Γ m_Ho_readFrom (d + 2) (0, 0) Q 64 [.ref r0, .ref r1, .int x2] [] μ3
        refine run_ok (pc' := 65) [(.aload_n 0, 0, 0, 0)] _ _ _ _ (by decide +kernel) ?_
        show G Γ m_Ho_readFrom (d + 2) (0, 0) Q 65 [.ref r0, .ref r1, .int x2] [.ref r0] μ3
        refine g_invV (M' := m_Ho_isWhole) (b1 := 0) (b2 := 0) (As := []) (a := r0) (st := []) lk_1_69 (by decide +kernel) rfl (dk_Ho_isWhole (d + 1)) (Nat.le_of_ble_eq_true rfl) (Or.inl ⟨1, (((o_r0_1).mono hn2).mono hn3), rfl⟩) h ?_
        rintro _ μ5 ⟨v5, rfl, h⟩ hn5
        show G Γ m_Ho_readFrom (d + 2) (0, 0) Q 68 [.ref r0, .ref r1, .int x2] [.int v5] μ5
        refine g_ifz_ne (pc' := 78) (off := 10) (by decide) (by decide +kernel) (fun hc => ?_) (fun hc => ?_)
        · replace h := h.2 hc
          show G Γ m_Ho_readFrom (d + 2) (0, 0) Q 78 [.ref r0, .ref r1, .int x2] [] μ5
          refine run_ok (pc' := 83) [(.iconst 1, 0, 0, 0), (.goto 4, 0, 0, 0)] _ _ _ _ (by decide +kernel) ?_
          show G Γ m_Ho_readFrom (d + 2) (0, 0) Q 83 [.ref r0, .ref r1, .int x2] [.int (w 1)] μ5
          exact g_retz (by decide +kernel) rfl (Or.inr rfl) h
        · replace h := h.1 hc
          show G Γ m_Ho_readFrom (d + 2) (0, 0) Q 71 [.ref r0, .ref r1, .int x2] [] μ5
          refine run_ok (pc' := 72) [(.aload_n 1, 0, 0, 0)] _ _ _ _ (by decide +kernel) ?_
          show G Γ m_Ho_readFrom (d + 2) (0, 0) Q 72 [.ref r0, .ref r1, .int x2] [.ref r1] μ5
          refine g_invV (M' := m_Ta_refuse) (b1 := 0) (b2 := 0) (As := []) (a := r1) (st := []) lk_1_73 (by decide +kernel) rfl (dk_Ta_refuse (d + 1)) (Nat.le_of_ble_eq_true rfl) (Or.inl ⟨9, ((((o_r1_9).mono hn2).mono hn3).mono hn5), rfl⟩) h ?_
          rintro _ μ6 ⟨v6, rfl, h⟩ hn6
          show G Γ m_Ho_readFrom (d + 2) (0, 0) Q 75 [.ref r0, .ref r1, .int x2] [.int v6] μ6
          refine g_ifz_eq (pc' := 82) (off := 7) (by decide) (by decide +kernel) (fun hc => ?_) (fun hc => ?_)
          · replace h := h.1 hc
            show G Γ m_Ho_readFrom (d + 2) (0, 0) Q 82 [.ref r0, .ref r1, .int x2] [] μ6
            refine run_ok (pc' := 83) [(.iconst 0, 0, 0, 0)] _ _ _ _ (by decide +kernel) ?_
            show G Γ m_Ho_readFrom (d + 2) (0, 0) Q 83 [.ref r0, .ref r1, .int x2] [.int (w 0)] μ6
            exact g_retz (by decide +kernel) rfl (Or.inl rfl) h
          · replace h := h.2 hc
            show G Γ m_Ho_readFrom (d + 2) (0, 0) Q 78 [.ref r0, .ref r1, .int x2] [] μ6
            refine run_ok (pc' := 83) [(.iconst 1, 0, 0, 0), (.goto 4, 0, 0, 0)] _ _ _ _ (by decide +kernel) ?_
            show G Γ m_Ho_readFrom (d + 2) (0, 0) Q 83 [.ref r0, .ref r1, .int x2] [.int (w 1)] μ6
            exact g_retz (by decide +kernel) rfl (Or.inr rfl) h
    · replace h := h.1 hc
      show G Γ m_Ho_readFrom (d + 2) (0, 0) Q 54 [.ref r0, .ref r1, .int x2] [] μ2
      refine run_ok (pc' := 55) [(.iconst 0, 0, 0, 0)] _ _ _ _ (by decide +kernel) ?_
      show G Γ m_Ho_readFrom (d + 2) (0, 0) Q 55 [.ref r0, .ref r1, .int x2] [.int (w 0)] μ2
      exact g_retz (by decide +kernel) rfl (Or.inl rfl) h
/-! FrostBox$House readClause(LFrostBox$Tape;)Z -/
set_option maxRecDepth 100000 in
theorem lk_1_93 : LkV 1 93 m_Ho_readItems 5 := ⟨lc_Ho_readItems, lwG_in (List.mem_of_getElem? (i := 508) rfl) rfl, lwG_in (List.mem_of_getElem? (i := 510) rfl) rfl, lwG_in (List.mem_of_getElem? (i := 2) rfl) rfl⟩
set_option maxRecDepth 100000 in
theorem lk_1_80 : LkV 1 80 m_Ta_pass 0 := ⟨lc_Ta_pass, lwG_in (List.mem_of_getElem? (i := 498) rfl) rfl, lwG_in (List.mem_of_getElem? (i := 499) rfl) rfl, lwG_in (List.mem_of_getElem? (i := 500) rfl) rfl⟩
set_option maxRecDepth 100000 in
theorem lk_1_116 : LkV 1 116 m_Pi_push 4 := ⟨lc_Pi_push, lwG_in (List.mem_of_getElem? (i := 544) rfl) rfl, lwG_in (List.mem_of_getElem? (i := 545) rfl) rfl, lwG_in (List.mem_of_getElem? (i := 546) rfl) rfl⟩
set_option maxRecDepth 100000 in
theorem B_Ho_readClause_0 {Γ : XG} {d : Nat} {Q : Option Value → XM → Prop} {r0 r1 : Nat} {μ : XM} (o_r1_9 : ob μ r1 9) (o_r0_1 : ob μ r0 1) (h : Call Γ m_Ta_ahead (d + 1) [.ref r1] μ (KI (fun v1 μ1 => ((v1 = w 115 → ((xI μ1 r0 5 = w 0 → Call Γ m_Ta_pass (d + 1) [.ref r1] μ1 (KV (fun μ2 => ∀ μ3, μ3 = sI μ2 r0 5 (w 1) → ∃ a4, xR μ3 r0 0 = some a4 ∧ Call Γ m_Ho_readItems (d + 1) [.ref r0, .ref r1, .ref 4, .ref 5, .ref 6, .ref a4] μ3 (KI (fun v5 μ5 => ((v5 = w 0 ∨ v5 = w 1) ∧ Q (some (.int v5)) μ5)))))) ∧ (¬ xI μ1 r0 5 = w 0 → G Γ m_Ho_readClause (d + 2) (0, 0) Q 46 [.ref r0, .ref r1, .int v1] [] μ1))) ∧ (¬ v1 = w 115 → G Γ m_Ho_readClause (d + 2) (0, 0) Q 46 [.ref r0, .ref r1, .int v1] [] μ1))))) : G Γ m_Ho_readClause (d + 2) (0, 0) Q 0 [.ref r0, .ref r1] [] μ := by
  refine run_ok (pc' := 1) [(.aload_n 1, 0, 0, 0)] _ _ _ _ (by decide +kernel) ?_
  show G Γ m_Ho_readClause (d + 2) (0, 0) Q 1 [.ref r0, .ref r1] [.ref r1] μ
  refine g_invV (M' := m_Ta_ahead) (b1 := 0) (b2 := 0) (As := []) (a := r1) (st := []) lk_1_65 (by decide +kernel) rfl (dk_Ta_ahead (d + 1)) (Nat.le_of_ble_eq_true rfl) (Or.inl ⟨9, o_r1_9, rfl⟩) h ?_
  rintro _ μ1 ⟨v1, rfl, h⟩ hn1
  show G Γ m_Ho_readClause (d + 2) (0, 0) Q 4 [.ref r0, .ref r1] [.int v1] μ1
  refine run_ok (pc' := 8) [(.istore_n 2, 0, 0, 0), (.iload_n 2, 0, 0, 0), (.bipush 115, 0, 0, 0)] _ _ _ _ (by decide +kernel) ?_
  show G Γ m_Ho_readClause (d + 2) (0, 0) Q 8 [.ref r0, .ref r1, .int v1] [.int (w 115), .int v1] μ1
  refine g_icmp_ne (pc' := 46) (off := 38) (by decide) (by decide +kernel) (fun hc => ?_) (fun hc => ?_)
  · replace h := h.2 hc
    show G Γ m_Ho_readClause (d + 2) (0, 0) Q 46 [.ref r0, .ref r1, .int v1] [] μ1
    exact h
  · replace h := h.1 hc
    show G Γ m_Ho_readClause (d + 2) (0, 0) Q 11 [.ref r0, .ref r1, .int v1] [] μ1
    refine run_ok (pc' := 15) [(.aload_n 0, 0, 0, 0), (.getfield 43, 1, 5, 0)] _ _ _ _ (by decide +kernel) ?_
    show _ ∧ (_)
    refine ⟨((o_r0_1).mono hn1), ?_⟩
    show G Γ m_Ho_readClause (d + 2) (0, 0) Q 15 [.ref r0, .ref r1, .int v1] [.int (xI μ1 r0 5)] μ1
    refine g_ifz_ne (pc' := 46) (off := 31) (by decide) (by decide +kernel) (fun hc => ?_) (fun hc => ?_)
    · replace h := h.2 hc
      show G Γ m_Ho_readClause (d + 2) (0, 0) Q 46 [.ref r0, .ref r1, .int v1] [] μ1
      exact h
    · replace h := h.1 hc
      show G Γ m_Ho_readClause (d + 2) (0, 0) Q 18 [.ref r0, .ref r1, .int v1] [] μ1
      refine run_ok (pc' := 19) [(.aload_n 1, 0, 0, 0)] _ _ _ _ (by decide +kernel) ?_
      show G Γ m_Ho_readClause (d + 2) (0, 0) Q 19 [.ref r0, .ref r1, .int v1] [.ref r1] μ1
      refine g_invV (M' := m_Ta_pass) (b1 := 0) (b2 := 0) (As := []) (a := r1) (st := []) lk_1_80 (by decide +kernel) rfl (dk_Ta_pass (d + 1)) (Nat.le_of_ble_eq_true rfl) (Or.inl ⟨9, ((o_r1_9).mono hn1), rfl⟩) h ?_
      rintro _ μ2 ⟨rfl, h⟩ hn2
      show G Γ m_Ho_readClause (d + 2) (0, 0) Q 22 [.ref r0, .ref r1, .int v1] [] μ2
      refine run_ok (pc' := 27) [(.aload_n 0, 0, 0, 0), (.iconst 1, 0, 0, 0), (.putfield 43, 1, 5, 3)] _ _ _ _ (by decide +kernel) ?_
      show _ ∧ (_ ∧ (_))
      refine ⟨(((o_r0_1).mono hn1).mono hn2), Or.inr rfl, ?_⟩
      show G Γ m_Ho_readClause (d + 2) (0, 0) Q 27 [.ref r0, .ref r1, .int v1] [] (sI μ2 r0 5 (w 1))
      obtain ⟨μ3, em3⟩ : ∃ m : XM, m = sI μ2 r0 5 (w 1) := ⟨_, rfl⟩
      replace h := h μ3 em3
      have hm3 : xN μ2 ≤ xN μ3 := by rw [em3]; exact Nat.le_refl _
      rw [← em3]
      obtain ⟨a4, ea4, h⟩ := h
      refine run_ok (pc' := 42) [(.aload_n 0, 0, 0, 0), (.aload_n 1, 0, 0, 0), (.getstatic 83, 1, 4, 0), (.getstatic 87, 1, 5, 0), (.getstatic 90, 1, 6, 0), (.aload_n 0, 0, 0, 0), (.getfield 13, 1, 0, 2)] _ _ _ _ (by decide +kernel) ?_
      show _ ∧ (∃ _, _ ∧ (_))
      refine ⟨((((o_r0_1).mono hn1).mono hn2).mono hm3), a4, ea4, ?_⟩
      show G Γ m_Ho_readClause (d + 2) (0, 0) Q 42 [.ref r0, .ref r1, .int v1] [.ref a4, .ref 6, .ref 5, .ref 4, .ref r1, .ref r0] μ3
      refine g_invV (M' := m_Ho_readItems) (b1 := 0) (b2 := 0) (As := [.ref r1, .ref 4, .ref 5, .ref 6, .ref a4]) (a := r0) (st := []) lk_1_93 (by decide +kernel) rfl (dk_Ho_readItems (d + 1)) (Nat.le_of_ble_eq_true rfl) (Or.inl ⟨1, ((((o_r0_1).mono hn1).mono hn2).mono hm3), rfl⟩) h ?_
      rintro _ μ5 ⟨v5, rfl, h⟩ hn5
      show G Γ m_Ho_readClause (d + 2) (0, 0) Q 45 [.ref r0, .ref r1, .int v1] [.int v5] μ5
      exact g_retz (by decide +kernel) rfl h.1 h.2
set_option maxRecDepth 100000 in
theorem B_Ho_readClause_46 {Γ : XG} {d : Nat} {Q : Option Value → XM → Prop} {r0 r1 : Nat} {x2 : Int32} {μ : XM} (o_r0_1 : ob μ r0 1) (o_r1_9 : ob μ r1 9) (h : ((x2 = w 107 → ((xI μ r0 4 < w 6 → Call Γ m_Ta_pass (d + 1) [.ref r1] μ (KV (fun μ1 => ∀ μ2, μ2 = sI μ1 r0 4 ((xI μ1 r0 4) + (w 1)) → ∃ a3, xR μ2 r0 1 = some a3 ∧ inb μ2 8 a3 ((xI μ2 r0 4) - (w 1)) ∧ ∃ a4, xR μ2 a3 ((xI μ2 r0 4) - (w 1)).toNatClampNeg = some a4 ∧ ∃ n5, ar μ2 1 0 n5 ∧ cpo μ2 1 a4 n5 ∧ ∀ μ7, μ7 = sC μ2 1 a4 n5 → inb μ7 8 a3 ((xI μ7 r0 4) - (w 1)) ∧ ∃ a8, xR μ7 a3 ((xI μ7 r0 4) - (w 1)).toNatClampNeg = some a8 ∧ Call Γ m_Ho_readItems (d + 1) [.ref r0, .ref r1, .ref 7, .ref 8, .ref 9, .ref a8] μ7 (KI (fun v9 μ9 => ((v9 = w 0 ∨ v9 = w 1) ∧ Q (some (.int v9)) μ9)))))) ∧ (¬ xI μ r0 4 < w 6 → G Γ m_Ho_readClause (d + 2) (0, 0) Q 124 [.ref r0, .ref r1, .int x2] [] μ))) ∧ (¬ x2 = w 107 → G Γ m_Ho_readClause (d + 2) (0, 0) Q 124 [.ref r0, .ref r1, .int x2] [] μ))) : G Γ m_Ho_readClause (d + 2) (0, 0) Q 46 [.ref r0, .ref r1, .int x2] [] μ := by
  refine run_ok (pc' := 49) [(.iload_n 2, 0, 0, 0), (.bipush 107, 0, 0, 0)] _ _ _ _ (by decide +kernel) ?_
  show G Γ m_Ho_readClause (d + 2) (0, 0) Q 49 [.ref r0, .ref r1, .int x2] [.int (w 107), .int x2] μ
  refine g_icmp_ne (pc' := 124) (off := 75) (by decide) (by decide +kernel) (fun hc => ?_) (fun hc => ?_)
  · replace h := h.2 hc
    show G Γ m_Ho_readClause (d + 2) (0, 0) Q 124 [.ref r0, .ref r1, .int x2] [] μ
    exact h
  · replace h := h.1 hc
    show G Γ m_Ho_readClause (d + 2) (0, 0) Q 52 [.ref r0, .ref r1, .int x2] [] μ
    refine run_ok (pc' := 58) [(.aload_n 0, 0, 0, 0), (.getfield 39, 1, 4, 0), (.bipush 6, 0, 0, 0)] _ _ _ _ (by decide +kernel) ?_
    show _ ∧ (_)
    refine ⟨o_r0_1, ?_⟩
    show G Γ m_Ho_readClause (d + 2) (0, 0) Q 58 [.ref r0, .ref r1, .int x2] [.int (w 6), .int (xI μ r0 4)] μ
    refine g_icmp_ge (pc' := 124) (off := 66) (by decide) (by decide +kernel) (fun hc => ?_) (fun hc => ?_)
    · replace h := h.2 hc
      show G Γ m_Ho_readClause (d + 2) (0, 0) Q 124 [.ref r0, .ref r1, .int x2] [] μ
      exact h
    · replace h := h.1 hc
      show G Γ m_Ho_readClause (d + 2) (0, 0) Q 61 [.ref r0, .ref r1, .int x2] [] μ
      refine run_ok (pc' := 62) [(.aload_n 1, 0, 0, 0)] _ _ _ _ (by decide +kernel) ?_
      show G Γ m_Ho_readClause (d + 2) (0, 0) Q 62 [.ref r0, .ref r1, .int x2] [.ref r1] μ
      refine g_invV (M' := m_Ta_pass) (b1 := 0) (b2 := 0) (As := []) (a := r1) (st := []) lk_1_80 (by decide +kernel) rfl (dk_Ta_pass (d + 1)) (Nat.le_of_ble_eq_true rfl) (Or.inl ⟨9, o_r1_9, rfl⟩) h ?_
      rintro _ μ1 ⟨rfl, h⟩ hn1
      show G Γ m_Ho_readClause (d + 2) (0, 0) Q 65 [.ref r0, .ref r1, .int x2] [] μ1
      refine run_ok (pc' := 75) [(.aload_n 0, 0, 0, 0), (.dup, 0, 0, 0), (.getfield 39, 1, 4, 0), (.iconst 1, 0, 0, 0), (.iadd, 0, 0, 0), (.putfield 39, 1, 4, 0)] _ _ _ _ (by decide +kernel) ?_
      show _ ∧ (_ ∧ (_))
      refine ⟨((o_r0_1).mono hn1), ((o_r0_1).mono hn1), ?_⟩
      show G Γ m_Ho_readClause (d + 2) (0, 0) Q 75 [.ref r0, .ref r1, .int x2] [] (sI μ1 r0 4 ((xI μ1 r0 4) + (w 1)))
      obtain ⟨μ2, em2⟩ : ∃ m : XM, m = sI μ1 r0 4 ((xI μ1 r0 4) + (w 1)) := ⟨_, rfl⟩
      replace h := h μ2 em2
      have hm2 : xN μ1 ≤ xN μ2 := by rw [em2]; exact Nat.le_refl _
      rw [← em2]
      obtain ⟨a3, ea3, h⟩ := h
      obtain ⟨ib4, h⟩ := h
      obtain ⟨a4, ea4, h⟩ := h
      obtain ⟨n5, el5, h⟩ := h
      refine run_ok (pc' := 95) [(.getstatic 18, 1, 1, 0), (.iconst 0, 0, 0, 0), (.aload_n 0, 0, 0, 0), (.getfield 23, 1, 1, 2), (.aload_n 0, 0, 0, 0), (.getfield 39, 1, 4, 0), (.iconst 1, 0, 0, 0), (.isub, 0, 0, 0), (.aaload, 8, 0, 0), (.iconst 0, 0, 0, 0), (.getstatic 18, 1, 1, 0), (.arraylength, 0, 0, 0)] _ _ _ _ (by decide +kernel) ?_
      show _ ∧ (∃ _, _ ∧ (_ ∧ (_ ∧ (∃ _, _ ∧ (∃ _, _ ∧ (_))))))
      refine ⟨(((o_r0_1).mono hn1).mono hm2), a3, ea3, (((o_r0_1).mono hn1).mono hm2), ib4, a4, ea4, n5, el5, ?_⟩
      show G Γ m_Ho_readClause (d + 2) (0, 0) Q 95 [.ref r0, .ref r1, .int x2] [.int (w n5), .int (w 0), .ref a4, .int (w 0), .ref 1] μ2
      obtain ⟨cp6, h⟩ := h
      refine g_cpy (i := 47) (n := n5) ac_1_47.1 ac_1_47.2 (ar_small el5) (Nat.le_of_ble_eq_true rfl) (by decide +kernel) cp6 ?_
      show G Γ m_Ho_readClause (d + 2) (0, 0) Q 98 [.ref r0, .ref r1, .int x2] [] (sC μ2 1 a4 n5)
      obtain ⟨μ7, em7⟩ : ∃ m : XM, m = sC μ2 1 a4 n5 := ⟨_, rfl⟩
      replace h := h μ7 em7
      have hm7 : xN μ2 ≤ xN μ7 := by rw [em7]; exact Nat.le_refl _
      rw [← em7]
      obtain ⟨ib8, h⟩ := h
      obtain ⟨a8, ea8, h⟩ := h
      refine run_ok (pc' := 120) [(.aload_n 0, 0, 0, 0), (.aload_n 1, 0, 0, 0), (.getstatic 97, 1, 7, 0), (.getstatic 100, 1, 8, 0), (.getstatic 103, 1, 9, 0), (.aload_n 0, 0, 0, 0), (.getfield 23, 1, 1, 2), (.aload_n 0, 0, 0, 0), (.getfield 39, 1, 4, 0), (.iconst 1, 0, 0, 0), (.isub, 0, 0, 0), (.aaload, 8, 0, 0)] _ _ _ _ (by decide +kernel) ?_
      show _ ∧ (∃ _, _ ∧ (_ ∧ (_ ∧ (∃ _, _ ∧ (_)))))
      refine ⟨((((o_r0_1).mono hn1).mono hm2).mono hm7), a3, (by rw [em7]; exact ea3), ((((o_r0_1).mono hn1).mono hm2).mono hm7), ib8, a8, ea8, ?_⟩
      show G Γ m_Ho_readClause (d + 2) (0, 0) Q 120 [.ref r0, .ref r1, .int x2] [.ref a8, .ref 9, .ref 8, .ref 7, .ref r1, .ref r0] μ7
      refine g_invV (M' := m_Ho_readItems) (b1 := 0) (b2 := 0) (As := [.ref r1, .ref 7, .ref 8, .ref 9, .ref a8]) (a := r0) (st := []) lk_1_93 (by decide +kernel) rfl (dk_Ho_readItems (d + 1)) (Nat.le_of_ble_eq_true rfl) (Or.inl ⟨1, ((((o_r0_1).mono hn1).mono hm2).mono hm7), rfl⟩) h ?_
      rintro _ μ9 ⟨v9, rfl, h⟩ hn9
      show G Γ m_Ho_readClause (d + 2) (0, 0) Q 123 [.ref r0, .ref r1, .int x2] [.int v9] μ9
      exact g_retz (by decide +kernel) rfl h.1 h.2
set_option maxRecDepth 100000 in
theorem B_Ho_readClause_124 {Γ : XG} {d : Nat} {Q : Option Value → XM → Prop} {r0 r1 r0_3 : Nat} {x2 : Int32} {μ : XM} (o_r1_9 : ob μ r1 9) (o_r0_1 : ob μ r0 1) (e_r0_3 : xR μ r0 3 = some r0_3) (o_r0_3_6 : ob μ r0_3 6) (h : ((x2 = w 98 → ((xI μ r0_3 4 < w 8 → Call Γ m_Ta_pass (d + 1) [.ref r1] μ (KV (fun μ2 => ∃ a3, xR μ2 r0 2 = some a3 ∧ ∃ n4, ar μ2 2 0 n4 ∧ cpo μ2 2 a3 n4 ∧ ∀ μ6, μ6 = sC μ2 2 a3 n4 → Call Γ m_Ho_readItems (d + 1) [.ref r0, .ref r1, .ref 10, .ref 11, .ref 12, .ref a3] μ6 (KI (fun v7 μ7 => ((v7 = w 0 → Q (some (.int (w 0))) μ7) ∧ (¬ v7 = w 0 → xR μ7 r0 3 = some r0_3 ∧ xR μ7 r0 2 = some a3 ∧ inb μ7 0 a3 (w 0) ∧ inb μ7 0 a3 (w 1) ∧ inb μ7 0 a3 (w 2) ∧ inb μ7 0 a3 (w 3) ∧ ((xI μ7 a3 (w 3).toNatClampNeg = w 1 → Call Γ m_Pi_push (d + 1) [.ref r0_3, .int (xI μ7 a3 (w 0).toNatClampNeg), .int (xI μ7 a3 (w 1).toNatClampNeg), .int (xI μ7 a3 (w 2).toNatClampNeg), .int (w 0)] μ7 (KV (fun μ15 => Q (some (.int (w 1))) μ15))) ∧ (¬ xI μ7 a3 (w 3).toNatClampNeg = w 1 → Call Γ m_Pi_push (d + 1) [.ref r0_3, .int (xI μ7 a3 (w 0).toNatClampNeg), .int (xI μ7 a3 (w 1).toNatClampNeg), .int (xI μ7 a3 (w 2).toNatClampNeg), .int (w (-1))] μ7 (KV (fun μ14 => Q (some (.int (w 1))) μ14))))))))))) ∧ (¬ xI μ r0_3 4 < w 8 → Call Γ m_Ta_refuse (d + 1) [.ref r1] μ (KI (fun v16 μ16 => ((v16 = w 0 ∨ v16 = w 1) ∧ Q (some (.int v16)) μ16)))))) ∧ (¬ x2 = w 98 → Call Γ m_Ta_refuse (d + 1) [.ref r1] μ (KI (fun v1 μ1 => ((v1 = w 0 ∨ v1 = w 1) ∧ Q (some (.int v1)) μ1)))))) : G Γ m_Ho_readClause (d + 2) (0, 0) Q 124 [.ref r0, .ref r1, .int x2] [] μ := by
  refine run_ok (pc' := 127) [(.iload_n 2, 0, 0, 0), (.bipush 98, 0, 0, 0)] _ _ _ _ (by decide +kernel) ?_
  show G Γ m_Ho_readClause (d + 2) (0, 0) Q 127 [.ref r0, .ref r1, .int x2] [.int (w 98), .int x2] μ
  refine g_icmp_ne (pc' := 142) (off := 15) (by decide) (by decide +kernel) (fun hc => ?_) (fun hc => ?_)
  · replace h := h.2 hc
    show G Γ m_Ho_readClause (d + 2) (0, 0) Q 142 [.ref r0, .ref r1, .int x2] [] μ
    refine run_ok (pc' := 143) [(.aload_n 1, 0, 0, 0)] _ _ _ _ (by decide +kernel) ?_
    show G Γ m_Ho_readClause (d + 2) (0, 0) Q 143 [.ref r0, .ref r1, .int x2] [.ref r1] μ
    refine g_invV (M' := m_Ta_refuse) (b1 := 0) (b2 := 0) (As := []) (a := r1) (st := []) lk_1_73 (by decide +kernel) rfl (dk_Ta_refuse (d + 1)) (Nat.le_of_ble_eq_true rfl) (Or.inl ⟨9, o_r1_9, rfl⟩) h ?_
    rintro _ μ1 ⟨v1, rfl, h⟩ hn1
    show G Γ m_Ho_readClause (d + 2) (0, 0) Q 146 [.ref r0, .ref r1, .int x2] [.int v1] μ1
    exact g_retz (by decide +kernel) rfl h.1 h.2
  · replace h := h.1 hc
    show G Γ m_Ho_readClause (d + 2) (0, 0) Q 130 [.ref r0, .ref r1, .int x2] [] μ
    refine run_ok (pc' := 139) [(.aload_n 0, 0, 0, 0), (.getfield 35, 1, 3, 2), (.getfield 106, 6, 4, 0), (.bipush 8, 0, 0, 0)] _ _ _ _ (by decide +kernel) ?_
    show _ ∧ (∃ _, _ ∧ (_ ∧ (_)))
    refine ⟨o_r0_1, r0_3, e_r0_3, o_r0_3_6, ?_⟩
    show G Γ m_Ho_readClause (d + 2) (0, 0) Q 139 [.ref r0, .ref r1, .int x2] [.int (w 8), .int (xI μ r0_3 4)] μ
    refine g_icmp_lt (pc' := 147) (off := 8) (by decide) (by decide +kernel) (fun hc => ?_) (fun hc => ?_)
    · replace h := h.1 hc
      show G Γ m_Ho_readClause (d + 2) (0, 0) Q 147 [.ref r0, .ref r1, .int x2] [] μ
      refine run_ok (pc' := 148) [(.aload_n 1, 0, 0, 0)] _ _ _ _ (by decide +kernel) ?_
      show G Γ m_Ho_readClause (d + 2) (0, 0) Q 148 [.ref r0, .ref r1, .int x2] [.ref r1] μ
      refine g_invV (M' := m_Ta_pass) (b1 := 0) (b2 := 0) (As := []) (a := r1) (st := []) lk_1_80 (by decide +kernel) rfl (dk_Ta_pass (d + 1)) (Nat.le_of_ble_eq_true rfl) (Or.inl ⟨9, o_r1_9, rfl⟩) h ?_
      rintro _ μ2 ⟨rfl, h⟩ hn2
      show G Γ m_Ho_readClause (d + 2) (0, 0) Q 151 [.ref r0, .ref r1, .int x2] [] μ2
      obtain ⟨a3, ea3, h⟩ := h
      obtain ⟨n4, el4, h⟩ := h
      refine run_ok (pc' := 164) [(.getstatic 26, 1, 2, 0), (.iconst 0, 0, 0, 0), (.aload_n 0, 0, 0, 0), (.getfield 29, 1, 2, 2), (.iconst 0, 0, 0, 0), (.getstatic 26, 1, 2, 0), (.arraylength, 0, 0, 0)] _ _ _ _ (by decide +kernel) ?_
      show _ ∧ (∃ _, _ ∧ (∃ _, _ ∧ (_)))
      refine ⟨((o_r0_1).mono hn2), a3, ea3, n4, el4, ?_⟩
      show G Γ m_Ho_readClause (d + 2) (0, 0) Q 164 [.ref r0, .ref r1, .int x2] [.int (w n4), .int (w 0), .ref a3, .int (w 0), .ref 2] μ2
      obtain ⟨cp5, h⟩ := h
      refine g_cpy (i := 47) (n := n4) ac_1_47.1 ac_1_47.2 (ar_small el4) (Nat.le_of_ble_eq_true rfl) (by decide +kernel) cp5 ?_
      show G Γ m_Ho_readClause (d + 2) (0, 0) Q 167 [.ref r0, .ref r1, .int x2] [] (sC μ2 2 a3 n4)
      obtain ⟨μ6, em6⟩ : ∃ m : XM, m = sC μ2 2 a3 n4 := ⟨_, rfl⟩
      replace h := h μ6 em6
      have hm6 : xN μ2 ≤ xN μ6 := by rw [em6]; exact Nat.le_refl _
      rw [← em6]
      refine run_ok (pc' := 182) [(.aload_n 0, 0, 0, 0), (.aload_n 1, 0, 0, 0), (.getstatic 107, 1, 10, 0), (.getstatic 110, 1, 11, 0), (.getstatic 113, 1, 12, 0), (.aload_n 0, 0, 0, 0), (.getfield 29, 1, 2, 2)] _ _ _ _ (by decide +kernel) ?_
      show _ ∧ (∃ _, _ ∧ (_))
      refine ⟨(((o_r0_1).mono hn2).mono hm6), a3, (by rw [em6]; exact ea3), ?_⟩
      show G Γ m_Ho_readClause (d + 2) (0, 0) Q 182 [.ref r0, .ref r1, .int x2] [.ref a3, .ref 12, .ref 11, .ref 10, .ref r1, .ref r0] μ6
      refine g_invV (M' := m_Ho_readItems) (b1 := 0) (b2 := 0) (As := [.ref r1, .ref 10, .ref 11, .ref 12, .ref a3]) (a := r0) (st := []) lk_1_93 (by decide +kernel) rfl (dk_Ho_readItems (d + 1)) (Nat.le_of_ble_eq_true rfl) (Or.inl ⟨1, (((o_r0_1).mono hn2).mono hm6), rfl⟩) h ?_
      rintro _ μ7 ⟨v7, rfl, h⟩ hn7
      show G Γ m_Ho_readClause (d + 2) (0, 0) Q 185 [.ref r0, .ref r1, .int x2] [.int v7] μ7
      refine g_ifz_ne (pc' := 190) (off := 5) (by decide) (by decide +kernel) (fun hc => ?_) (fun hc => ?_)
      · replace h := h.2 hc
        show G Γ m_Ho_readClause (d + 2) (0, 0) Q 190 [.ref r0, .ref r1, .int x2] [] μ7
        obtain ⟨ea8, h⟩ := h
        obtain ⟨ea9, h⟩ := h
        obtain ⟨ib10, h⟩ := h
        obtain ⟨ib11, h⟩ := h
        obtain ⟨ib12, h⟩ := h
        obtain ⟨ib13, h⟩ := h
        refine run_ok (pc' := 219) [(.aload_n 0, 0, 0, 0), (.getfield 35, 1, 3, 2), (.aload_n 0, 0, 0, 0), (.getfield 29, 1, 2, 2), (.iconst 0, 0, 0, 0), (.iaload, 0, 0, 0), (.aload_n 0, 0, 0, 0), (.getfield 29, 1, 2, 2), (.iconst 1, 0, 0, 0), (.iaload, 0, 0, 0), (.aload_n 0, 0, 0, 0), (.getfield 29, 1, 2, 2), (.iconst 2, 0, 0, 0), (.iaload, 0, 0, 0), (.aload_n 0, 0, 0, 0), (.getfield 29, 1, 2, 2), (.iconst 3, 0, 0, 0), (.iaload, 0, 0, 0), (.iconst 1, 0, 0, 0)] _ _ _ _ (by decide +kernel) ?_
        show _ ∧ (∃ _, _ ∧ (_ ∧ (∃ _, _ ∧ (_ ∧ (_ ∧ (∃ _, _ ∧ (_ ∧ (_ ∧ (∃ _, _ ∧ (_ ∧ (_ ∧ (∃ _, _ ∧ (_ ∧ (_))))))))))))))
        refine ⟨((((o_r0_1).mono hn2).mono hm6).mono hn7), r0_3, ea8, ((((o_r0_1).mono hn2).mono hm6).mono hn7), a3, ea9, ib10, ((((o_r0_1).mono hn2).mono hm6).mono hn7), a3, ea9, ib11, ((((o_r0_1).mono hn2).mono hm6).mono hn7), a3, ea9, ib12, ((((o_r0_1).mono hn2).mono hm6).mono hn7), a3, ea9, ib13, ?_⟩
        show G Γ m_Ho_readClause (d + 2) (0, 0) Q 219 [.ref r0, .ref r1, .int x2] [.int (w 1), .int (xI μ7 a3 (w 3).toNatClampNeg), .int (xI μ7 a3 (w 2).toNatClampNeg), .int (xI μ7 a3 (w 1).toNatClampNeg), .int (xI μ7 a3 (w 0).toNatClampNeg), .ref r0_3] μ7
        refine g_icmp_ne (pc' := 226) (off := 7) (by decide) (by decide +kernel) (fun hc => ?_) (fun hc => ?_)
        · replace h := h.2 hc
          show G Γ m_Ho_readClause (d + 2) (0, 0) Q 226 [.ref r0, .ref r1, .int x2] [.int (xI μ7 a3 (w 2).toNatClampNeg), .int (xI μ7 a3 (w 1).toNatClampNeg), .int (xI μ7 a3 (w 0).toNatClampNeg), .ref r0_3] μ7
          refine run_ok (pc' := 227) [(.iconst (-1), 0, 0, 0)] _ _ _ _ (by decide +kernel) ?_
          show G Γ m_Ho_readClause (d + 2) (0, 0) Q 227 [.ref r0, .ref r1, .int x2] [.int (w (-1)), .int (xI μ7 a3 (w 2).toNatClampNeg), .int (xI μ7 a3 (w 1).toNatClampNeg), .int (xI μ7 a3 (w 0).toNatClampNeg), .ref r0_3] μ7
          refine g_invV (M' := m_Pi_push) (b1 := 0) (b2 := 0) (As := [.int (xI μ7 a3 (w 0).toNatClampNeg), .int (xI μ7 a3 (w 1).toNatClampNeg), .int (xI μ7 a3 (w 2).toNatClampNeg), .int (w (-1))]) (a := r0_3) (st := []) lk_1_116 (by decide +kernel) rfl (dk_Pi_push (d + 1)) (Nat.le_of_ble_eq_true rfl) (Or.inl ⟨6, ((((o_r0_3_6).mono hn2).mono hm6).mono hn7), rfl⟩) h ?_
          rintro _ μ14 ⟨rfl, h⟩ hn14
          show G Γ m_Ho_readClause (d + 2) (0, 0) Q 230 [.ref r0, .ref r1, .int x2] [] μ14
          refine run_ok (pc' := 231) [(.iconst 1, 0, 0, 0)] _ _ _ _ (by decide +kernel) ?_
          show G Γ m_Ho_readClause (d + 2) (0, 0) Q 231 [.ref r0, .ref r1, .int x2] [.int (w 1)] μ14
          exact g_retz (by decide +kernel) rfl (Or.inr rfl) h
        · replace h := h.1 hc
          show G Γ m_Ho_readClause (d + 2) (0, 0) Q 222 [.ref r0, .ref r1, .int x2] [.int (xI μ7 a3 (w 2).toNatClampNeg), .int (xI μ7 a3 (w 1).toNatClampNeg), .int (xI μ7 a3 (w 0).toNatClampNeg), .ref r0_3] μ7
          refine run_ok (pc' := 227) [(.iconst 0, 0, 0, 0), (.goto 4, 0, 0, 0)] _ _ _ _ (by decide +kernel) ?_
          show G Γ m_Ho_readClause (d + 2) (0, 0) Q 227 [.ref r0, .ref r1, .int x2] [.int (w 0), .int (xI μ7 a3 (w 2).toNatClampNeg), .int (xI μ7 a3 (w 1).toNatClampNeg), .int (xI μ7 a3 (w 0).toNatClampNeg), .ref r0_3] μ7
          refine g_invV (M' := m_Pi_push) (b1 := 0) (b2 := 0) (As := [.int (xI μ7 a3 (w 0).toNatClampNeg), .int (xI μ7 a3 (w 1).toNatClampNeg), .int (xI μ7 a3 (w 2).toNatClampNeg), .int (w 0)]) (a := r0_3) (st := []) lk_1_116 (by decide +kernel) rfl (dk_Pi_push (d + 1)) (Nat.le_of_ble_eq_true rfl) (Or.inl ⟨6, ((((o_r0_3_6).mono hn2).mono hm6).mono hn7), rfl⟩) h ?_
          rintro _ μ15 ⟨rfl, h⟩ hn15
          show G Γ m_Ho_readClause (d + 2) (0, 0) Q 230 [.ref r0, .ref r1, .int x2] [] μ15
          refine run_ok (pc' := 231) [(.iconst 1, 0, 0, 0)] _ _ _ _ (by decide +kernel) ?_
          show G Γ m_Ho_readClause (d + 2) (0, 0) Q 231 [.ref r0, .ref r1, .int x2] [.int (w 1)] μ15
          exact g_retz (by decide +kernel) rfl (Or.inr rfl) h
      · replace h := h.1 hc
        show G Γ m_Ho_readClause (d + 2) (0, 0) Q 188 [.ref r0, .ref r1, .int x2] [] μ7
        refine run_ok (pc' := 189) [(.iconst 0, 0, 0, 0)] _ _ _ _ (by decide +kernel) ?_
        show G Γ m_Ho_readClause (d + 2) (0, 0) Q 189 [.ref r0, .ref r1, .int x2] [.int (w 0)] μ7
        exact g_retz (by decide +kernel) rfl (Or.inl rfl) h
    · replace h := h.2 hc
      show G Γ m_Ho_readClause (d + 2) (0, 0) Q 142 [.ref r0, .ref r1, .int x2] [] μ
      refine run_ok (pc' := 143) [(.aload_n 1, 0, 0, 0)] _ _ _ _ (by decide +kernel) ?_
      show G Γ m_Ho_readClause (d + 2) (0, 0) Q 143 [.ref r0, .ref r1, .int x2] [.ref r1] μ
      refine g_invV (M' := m_Ta_refuse) (b1 := 0) (b2 := 0) (As := []) (a := r1) (st := []) lk_1_73 (by decide +kernel) rfl (dk_Ta_refuse (d + 1)) (Nat.le_of_ble_eq_true rfl) (Or.inl ⟨9, o_r1_9, rfl⟩) h ?_
      rintro _ μ16 ⟨v16, rfl, h⟩ hn16
      show G Γ m_Ho_readClause (d + 2) (0, 0) Q 146 [.ref r0, .ref r1, .int x2] [.int v16] μ16
      exact g_retz (by decide +kernel) rfl h.1 h.2
/-! FrostBox$House readItems(LFrostBox$Tape;[C[I[I[I)Z -/
set_option maxRecDepth 100000 in
theorem lk_1_128 : LkV 1 128 m_Ta_refuseLast 0 := ⟨lc_Ta_refuseLast, lwG_in (List.mem_of_getElem? (i := 528) rfl) rfl, lwG_in (List.mem_of_getElem? (i := 529) rfl) rfl, lwG_in (List.mem_of_getElem? (i := 530) rfl) rfl⟩
set_option maxRecDepth 100000 in
theorem lk_1_124 : LkV 1 124 m_Ta_number 1 := ⟨lc_Ta_number, lwG_in (List.mem_of_getElem? (i := 519) rfl) rfl, lwG_in (List.mem_of_getElem? (i := 520) rfl) rfl, lwG_in (List.mem_of_getElem? (i := 521) rfl) rfl⟩
set_option maxRecDepth 100000 in
theorem lk_1_120 : LkSN 1 120 m_FB_placeAmong 2 := ⟨lc_FB_placeAmong, ⟨_, List.mem_of_getElem? (i := 512) rfl⟩, lwG_in (List.mem_of_getElem? (i := 513) rfl) rfl⟩
set_option maxRecDepth 100000 in
theorem B_Ho_readItems_0 {Γ : XG} {d : Nat} {Q : Option Value → XM → Prop} {r0 r1 r2 r3 r4 r5 : Nat} {μ : XM}  (h : G Γ m_Ho_readItems (d + 1) (0, 0) Q 6 [jk, .ref r1, .ref r2, .ref r3, .ref r4, .ref r5, .int (w 0), .int (w 0)] [] μ) : G Γ m_Ho_readItems (d + 1) (0, 0) Q 0 [.ref r0, .ref r1, .ref r2, .ref r3, .ref r4, .ref r5] [] μ := by
  refine run_ok (pc' := 6) [(.iconst 0, 0, 0, 0), (.istore 6, 0, 0, 0), (.iconst 0, 0, 0, 0), (.istore 7, 0, 0, 0)] _ _ _ _ (by decide +kernel) ?_
  show G Γ m_Ho_readItems (d + 1) (0, 0) Q 6 [.ref r0, .ref r1, .ref r2, .ref r3, .ref r4, .ref r5, .int (w 0), .int (w 0)] [] μ
  exact g_wk (ls' := [jk, .ref r1, .ref r2, .ref r3, .ref r4, .ref r5, .int (w 0), .int (w 0)]) ⟨Or.inl rfl, Or.inr rfl, Or.inr rfl, Or.inr rfl, Or.inr rfl, Or.inr rfl, Or.inr rfl, Or.inr rfl, trivial⟩ h
set_option maxRecDepth 100000 in
theorem B_Ho_readItems_6 {Γ : XG} {d : Nat} {Q : Option Value → XM → Prop} {r1 r2 r3 r4 r5 : Nat} {x6 x7 : Int32} {μ : XM} (o_r1_9 : ob μ r1 9) (h : ∃ n1, ar μ r2 3 n1 ∧ ((w n1 < x7 → Q (some (.int (w 1))) μ) ∧ (¬ w n1 < x7 → Call Γ m_Ta_ahead d [.ref r1] μ (KI (fun v2 μ2 => Call Γ m_FB_placeAmong d [.ref r2, .int v2] μ2 (KI (fun v3 μ3 => ((v3 = w (-1) → Q (some (.int (w 1))) μ3) ∧ (¬ v3 = w (-1) → (((x6 >>> (v3 &&& 31)) &&& (w 1) = w 1 → Call Γ m_Ta_refuse d [.ref r1] μ3 (KI (fun v12 μ12 => ((v12 = w 0 ∨ v12 = w 1) ∧ Q (some (.int v12)) μ12)))) ∧ (¬ (x6 >>> (v3 &&& 31)) &&& (w 1) = w 1 → Call Γ m_Ta_pass d [.ref r1] μ3 (KV (fun μ4 => Call Γ m_Ta_number d [.ref r1, .int (w 2)] μ4 (KI (fun v5 μ5 => ((v5 = w (-1) → Q (some (.int (w 0))) μ5) ∧ (¬ v5 = w (-1) → inb μ5 0 r3 v3 ∧ ((v5 < xI μ5 r3 v3.toNatClampNeg → Call Γ m_Ta_refuseLast d [.ref r1] μ5 (KI (fun v7 μ7 => ((v7 = w 0 ∨ v7 = w 1) ∧ Q (some (.int v7)) μ7)))) ∧ (¬ v5 < xI μ5 r3 v3.toNatClampNeg → inb μ5 0 r4 v3 ∧ ((xI μ5 r4 v3.toNatClampNeg < v5 → Call Γ m_Ta_refuseLast d [.ref r1] μ5 (KI (fun v11 μ11 => ((v11 = w 0 ∨ v11 = w 1) ∧ Q (some (.int v11)) μ11)))) ∧ (¬ xI μ5 r4 v3.toNatClampNeg < v5 → inS μ5 0 r5 v3 ∧ ∀ μ10, μ10 = sI μ5 r5 v3.toNatClampNeg v5 → G Γ m_Ho_readItems (d + 1) (0, 0) Q 6 [jk, .ref r1, .ref r2, .ref r3, .ref r4, .ref r5, .int (x6 ||| ((w 1) <<< (v3 &&& 31))), .int (x7 + w 1)] [] μ10))))))))))))))))))))) : G Γ m_Ho_readItems (d + 1) (0, 0) Q 6 [jk, .ref r1, .ref r2, .ref r3, .ref r4, .ref r5, .int x6, .int x7] [] μ := by
  obtain ⟨n1, el1, h⟩ := h
  refine run_ok (pc' := 10) [(.iload 7, 0, 0, 0), (.aload_n 2, 0, 0, 0), (.arraylength, 3, 0, 0)] _ _ _ _ (by decide +kernel) ?_
  show ∃ _, _ ∧ (_)
  refine ⟨n1, el1, ?_⟩
  show G Γ m_Ho_readItems (d + 1) (0, 0) Q 10 [jk, .ref r1, .ref r2, .ref r3, .ref r4, .ref r5, .int x6, .int x7] [.int (w n1), .int x7] μ
  refine g_icmp_gt (pc' := 112) (off := 102) (by decide) (by decide +kernel) (fun hc => ?_) (fun hc => ?_)
  · replace h := h.1 hc
    show G Γ m_Ho_readItems (d + 1) (0, 0) Q 112 [jk, .ref r1, .ref r2, .ref r3, .ref r4, .ref r5, .int x6, .int x7] [] μ
    refine run_ok (pc' := 113) [(.iconst 1, 0, 0, 0)] _ _ _ _ (by decide +kernel) ?_
    show G Γ m_Ho_readItems (d + 1) (0, 0) Q 113 [jk, .ref r1, .ref r2, .ref r3, .ref r4, .ref r5, .int x6, .int x7] [.int (w 1)] μ
    exact g_retz (by decide +kernel) rfl (Or.inr rfl) h
  · replace h := h.2 hc
    show G Γ m_Ho_readItems (d + 1) (0, 0) Q 13 [jk, .ref r1, .ref r2, .ref r3, .ref r4, .ref r5, .int x6, .int x7] [] μ
    refine run_ok (pc' := 15) [(.aload_n 2, 0, 0, 0), (.aload_n 1, 0, 0, 0)] _ _ _ _ (by decide +kernel) ?_
    show G Γ m_Ho_readItems (d + 1) (0, 0) Q 15 [jk, .ref r1, .ref r2, .ref r3, .ref r4, .ref r5, .int x6, .int x7] [.ref r1, .ref r2] μ
    refine g_invV (M' := m_Ta_ahead) (b1 := 0) (b2 := 0) (As := []) (a := r1) (st := [.ref r2]) lk_1_65 (by decide +kernel) rfl (dk_Ta_ahead d) (Nat.le_of_ble_eq_true rfl) (Or.inl ⟨9, o_r1_9, rfl⟩) h ?_
    rintro _ μ2 ⟨v2, rfl, h⟩ hn2
    show G Γ m_Ho_readItems (d + 1) (0, 0) Q 18 [jk, .ref r1, .ref r2, .ref r3, .ref r4, .ref r5, .int x6, .int x7] [.int v2, .ref r2] μ2
    refine g_invSN (M' := m_FB_placeAmong) (b1 := 0) (b2 := 0) (As := [.ref r2, .int v2]) (st := []) lk_1_120 (by decide +kernel) rfl (dk_FB_placeAmong d) (Nat.le_of_ble_eq_true rfl) h ?_
    rintro _ μ3 ⟨v3, rfl, h⟩ hn3
    show G Γ m_Ho_readItems (d + 1) (0, 0) Q 21 [jk, .ref r1, .ref r2, .ref r3, .ref r4, .ref r5, .int x6, .int x7] [.int v3] μ3
    refine run_ok (pc' := 26) [(.istore 8, 0, 0, 0), (.iload 8, 0, 0, 0), (.iconst (-1), 0, 0, 0)] _ _ _ _ (by decide +kernel) ?_
    show G Γ m_Ho_readItems (d + 1) (0, 0) Q 26 [jk, .ref r1, .ref r2, .ref r3, .ref r4, .ref r5, .int x6, .int x7, .int v3] [.int (w (-1)), .int v3] μ3
    refine g_icmp_ne (pc' := 31) (off := 5) (by decide) (by decide +kernel) (fun hc => ?_) (fun hc => ?_)
    · replace h := h.2 hc
      show G Γ m_Ho_readItems (d + 1) (0, 0) Q 31 [jk, .ref r1, .ref r2, .ref r3, .ref r4, .ref r5, .int x6, .int x7, .int v3] [] μ3
      refine run_ok (pc' := 39) [(.iload 6, 0, 0, 0), (.iload 8, 0, 0, 0), (.ishr, 0, 0, 0), (.iconst 1, 0, 0, 0), (.iand, 0, 0, 0), (.iconst 1, 0, 0, 0)] _ _ _ _ (by decide +kernel) ?_
      show G Γ m_Ho_readItems (d + 1) (0, 0) Q 39 [jk, .ref r1, .ref r2, .ref r3, .ref r4, .ref r5, .int x6, .int x7, .int v3] [.int (w 1), .int ((x6 >>> (v3 &&& 31)) &&& (w 1))] μ3
      refine g_icmp_ne (pc' := 47) (off := 8) (by decide) (by decide +kernel) (fun hc => ?_) (fun hc => ?_)
      · replace h := h.2 hc
        show G Γ m_Ho_readItems (d + 1) (0, 0) Q 47 [jk, .ref r1, .ref r2, .ref r3, .ref r4, .ref r5, .int x6, .int x7, .int v3] [] μ3
        refine run_ok (pc' := 57) [(.iload 6, 0, 0, 0), (.iconst 1, 0, 0, 0), (.iload 8, 0, 0, 0), (.ishl, 0, 0, 0), (.ior, 0, 0, 0), (.istore 6, 0, 0, 0), (.aload_n 1, 0, 0, 0)] _ _ _ _ (by decide +kernel) ?_
        show G Γ m_Ho_readItems (d + 1) (0, 0) Q 57 [jk, .ref r1, .ref r2, .ref r3, .ref r4, .ref r5, .int (x6 ||| ((w 1) <<< (v3 &&& 31))), .int x7, .int v3] [.ref r1] μ3
        refine g_invV (M' := m_Ta_pass) (b1 := 0) (b2 := 0) (As := []) (a := r1) (st := []) lk_1_80 (by decide +kernel) rfl (dk_Ta_pass d) (Nat.le_of_ble_eq_true rfl) (Or.inl ⟨9, (((o_r1_9).mono hn2).mono hn3), rfl⟩) h ?_
        rintro _ μ4 ⟨rfl, h⟩ hn4
        show G Γ m_Ho_readItems (d + 1) (0, 0) Q 60 [jk, .ref r1, .ref r2, .ref r3, .ref r4, .ref r5, .int (x6 ||| ((w 1) <<< (v3 &&& 31))), .int x7, .int v3] [] μ4
        refine run_ok (pc' := 62) [(.aload_n 1, 0, 0, 0), (.iconst 2, 0, 0, 0)] _ _ _ _ (by decide +kernel) ?_
        show G Γ m_Ho_readItems (d + 1) (0, 0) Q 62 [jk, .ref r1, .ref r2, .ref r3, .ref r4, .ref r5, .int (x6 ||| ((w 1) <<< (v3 &&& 31))), .int x7, .int v3] [.int (w 2), .ref r1] μ4
        refine g_invV (M' := m_Ta_number) (b1 := 0) (b2 := 0) (As := [.int (w 2)]) (a := r1) (st := []) lk_1_124 (by decide +kernel) rfl (dk_Ta_number d) (Nat.le_of_ble_eq_true rfl) (Or.inl ⟨9, ((((o_r1_9).mono hn2).mono hn3).mono hn4), rfl⟩) h ?_
        rintro _ μ5 ⟨v5, rfl, h⟩ hn5
        show G Γ m_Ho_readItems (d + 1) (0, 0) Q 65 [jk, .ref r1, .ref r2, .ref r3, .ref r4, .ref r5, .int (x6 ||| ((w 1) <<< (v3 &&& 31))), .int x7, .int v3] [.int v5] μ5
        refine run_ok (pc' := 70) [(.istore 9, 0, 0, 0), (.iload 9, 0, 0, 0), (.iconst (-1), 0, 0, 0)] _ _ _ _ (by decide +kernel) ?_
        show G Γ m_Ho_readItems (d + 1) (0, 0) Q 70 [jk, .ref r1, .ref r2, .ref r3, .ref r4, .ref r5, .int (x6 ||| ((w 1) <<< (v3 &&& 31))), .int x7, .int v3, .int v5] [.int (w (-1)), .int v5] μ5
        refine g_icmp_ne (pc' := 75) (off := 5) (by decide) (by decide +kernel) (fun hc => ?_) (fun hc => ?_)
        · replace h := h.2 hc
          show G Γ m_Ho_readItems (d + 1) (0, 0) Q 75 [jk, .ref r1, .ref r2, .ref r3, .ref r4, .ref r5, .int (x6 ||| ((w 1) <<< (v3 &&& 31))), .int x7, .int v3, .int v5] [] μ5
          obtain ⟨ib6, h⟩ := h
          refine run_ok (pc' := 81) [(.iload 9, 0, 0, 0), (.aload_n 3, 0, 0, 0), (.iload 8, 0, 0, 0), (.iaload, 0, 0, 0)] _ _ _ _ (by decide +kernel) ?_
          show _ ∧ (_)
          refine ⟨ib6, ?_⟩
          show G Γ m_Ho_readItems (d + 1) (0, 0) Q 81 [jk, .ref r1, .ref r2, .ref r3, .ref r4, .ref r5, .int (x6 ||| ((w 1) <<< (v3 &&& 31))), .int x7, .int v3, .int v5] [.int (xI μ5 r3 v3.toNatClampNeg), .int v5] μ5
          refine g_icmp_lt (pc' := 94) (off := 13) (by decide) (by decide +kernel) (fun hc => ?_) (fun hc => ?_)
          · replace h := h.1 hc
            show G Γ m_Ho_readItems (d + 1) (0, 0) Q 94 [jk, .ref r1, .ref r2, .ref r3, .ref r4, .ref r5, .int (x6 ||| ((w 1) <<< (v3 &&& 31))), .int x7, .int v3, .int v5] [] μ5
            refine run_ok (pc' := 95) [(.aload_n 1, 0, 0, 0)] _ _ _ _ (by decide +kernel) ?_
            show G Γ m_Ho_readItems (d + 1) (0, 0) Q 95 [jk, .ref r1, .ref r2, .ref r3, .ref r4, .ref r5, .int (x6 ||| ((w 1) <<< (v3 &&& 31))), .int x7, .int v3, .int v5] [.ref r1] μ5
            refine g_invV (M' := m_Ta_refuseLast) (b1 := 0) (b2 := 0) (As := []) (a := r1) (st := []) lk_1_128 (by decide +kernel) rfl (dk_Ta_refuseLast d) (Nat.le_of_ble_eq_true rfl) (Or.inl ⟨9, (((((o_r1_9).mono hn2).mono hn3).mono hn4).mono hn5), rfl⟩) h ?_
            rintro _ μ7 ⟨v7, rfl, h⟩ hn7
            show G Γ m_Ho_readItems (d + 1) (0, 0) Q 98 [jk, .ref r1, .ref r2, .ref r3, .ref r4, .ref r5, .int (x6 ||| ((w 1) <<< (v3 &&& 31))), .int x7, .int v3, .int v5] [.int v7] μ7
            exact g_retz (by decide +kernel) rfl h.1 h.2
          · replace h := h.2 hc
            show G Γ m_Ho_readItems (d + 1) (0, 0) Q 84 [jk, .ref r1, .ref r2, .ref r3, .ref r4, .ref r5, .int (x6 ||| ((w 1) <<< (v3 &&& 31))), .int x7, .int v3, .int v5] [] μ5
            obtain ⟨ib8, h⟩ := h
            refine run_ok (pc' := 91) [(.iload 9, 0, 0, 0), (.aload 4, 0, 0, 0), (.iload 8, 0, 0, 0), (.iaload, 0, 0, 0)] _ _ _ _ (by decide +kernel) ?_
            show _ ∧ (_)
            refine ⟨ib8, ?_⟩
            show G Γ m_Ho_readItems (d + 1) (0, 0) Q 91 [jk, .ref r1, .ref r2, .ref r3, .ref r4, .ref r5, .int (x6 ||| ((w 1) <<< (v3 &&& 31))), .int x7, .int v3, .int v5] [.int (xI μ5 r4 v3.toNatClampNeg), .int v5] μ5
            refine g_icmp_le (pc' := 99) (off := 8) (by decide) (by decide +kernel) (fun hc => ?_) (fun hc => ?_)
            · replace h := h.2 hc
              show G Γ m_Ho_readItems (d + 1) (0, 0) Q 99 [jk, .ref r1, .ref r2, .ref r3, .ref r4, .ref r5, .int (x6 ||| ((w 1) <<< (v3 &&& 31))), .int x7, .int v3, .int v5] [] μ5
              obtain ⟨is9, h⟩ := h
              refine run_ok (pc' := 106) [(.aload 5, 0, 0, 0), (.iload 8, 0, 0, 0), (.iload 9, 0, 0, 0), (.iastore, 0, 0, 0)] _ _ _ _ (by decide +kernel) ?_
              show _ ∧ (_)
              refine ⟨is9, ?_⟩
              show G Γ m_Ho_readItems (d + 1) (0, 0) Q 106 [jk, .ref r1, .ref r2, .ref r3, .ref r4, .ref r5, .int (x6 ||| ((w 1) <<< (v3 &&& 31))), .int x7, .int v3, .int v5] [] (sI μ5 r5 v3.toNatClampNeg v5)
              obtain ⟨μ10, em10⟩ : ∃ m : XM, m = sI μ5 r5 v3.toNatClampNeg v5 := ⟨_, rfl⟩
              replace h := h μ10 em10
              have hm10 : xN μ5 ≤ xN μ10 := by rw [em10]; exact Nat.le_refl _
              rw [← em10]
              refine run_ok (pc' := 6) [(.iinc 7 1, 0, 0, 0), (.goto (-103), 0, 0, 0)] _ _ _ _ (by decide +kernel) ?_
              show G Γ m_Ho_readItems (d + 1) (0, 0) Q 6 [jk, .ref r1, .ref r2, .ref r3, .ref r4, .ref r5, .int (x6 ||| ((w 1) <<< (v3 &&& 31))), .int (x7 + w 1), .int v3, .int v5] [] μ10
              exact g_wk (ls' := [jk, .ref r1, .ref r2, .ref r3, .ref r4, .ref r5, .int (x6 ||| ((w 1) <<< (v3 &&& 31))), .int (x7 + w 1)]) ⟨Or.inl rfl, Or.inr rfl, Or.inr rfl, Or.inr rfl, Or.inr rfl, Or.inr rfl, Or.inr rfl, Or.inr rfl, trivial⟩ h
            · replace h := h.1 hc
              show G Γ m_Ho_readItems (d + 1) (0, 0) Q 94 [jk, .ref r1, .ref r2, .ref r3, .ref r4, .ref r5, .int (x6 ||| ((w 1) <<< (v3 &&& 31))), .int x7, .int v3, .int v5] [] μ5
              refine run_ok (pc' := 95) [(.aload_n 1, 0, 0, 0)] _ _ _ _ (by decide +kernel) ?_
              show G Γ m_Ho_readItems (d + 1) (0, 0) Q 95 [jk, .ref r1, .ref r2, .ref r3, .ref r4, .ref r5, .int (x6 ||| ((w 1) <<< (v3 &&& 31))), .int x7, .int v3, .int v5] [.ref r1] μ5
              refine g_invV (M' := m_Ta_refuseLast) (b1 := 0) (b2 := 0) (As := []) (a := r1) (st := []) lk_1_128 (by decide +kernel) rfl (dk_Ta_refuseLast d) (Nat.le_of_ble_eq_true rfl) (Or.inl ⟨9, (((((o_r1_9).mono hn2).mono hn3).mono hn4).mono hn5), rfl⟩) h ?_
              rintro _ μ11 ⟨v11, rfl, h⟩ hn11
              show G Γ m_Ho_readItems (d + 1) (0, 0) Q 98 [jk, .ref r1, .ref r2, .ref r3, .ref r4, .ref r5, .int (x6 ||| ((w 1) <<< (v3 &&& 31))), .int x7, .int v3, .int v5] [.int v11] μ11
              exact g_retz (by decide +kernel) rfl h.1 h.2
        · replace h := h.1 hc
          show G Γ m_Ho_readItems (d + 1) (0, 0) Q 73 [jk, .ref r1, .ref r2, .ref r3, .ref r4, .ref r5, .int (x6 ||| ((w 1) <<< (v3 &&& 31))), .int x7, .int v3, .int v5] [] μ5
          refine run_ok (pc' := 74) [(.iconst 0, 0, 0, 0)] _ _ _ _ (by decide +kernel) ?_
          show G Γ m_Ho_readItems (d + 1) (0, 0) Q 74 [jk, .ref r1, .ref r2, .ref r3, .ref r4, .ref r5, .int (x6 ||| ((w 1) <<< (v3 &&& 31))), .int x7, .int v3, .int v5] [.int (w 0)] μ5
          exact g_retz (by decide +kernel) rfl (Or.inl rfl) h
      · replace h := h.1 hc
        show G Γ m_Ho_readItems (d + 1) (0, 0) Q 42 [jk, .ref r1, .ref r2, .ref r3, .ref r4, .ref r5, .int x6, .int x7, .int v3] [] μ3
        refine run_ok (pc' := 43) [(.aload_n 1, 0, 0, 0)] _ _ _ _ (by decide +kernel) ?_
        show G Γ m_Ho_readItems (d + 1) (0, 0) Q 43 [jk, .ref r1, .ref r2, .ref r3, .ref r4, .ref r5, .int x6, .int x7, .int v3] [.ref r1] μ3
        refine g_invV (M' := m_Ta_refuse) (b1 := 0) (b2 := 0) (As := []) (a := r1) (st := []) lk_1_73 (by decide +kernel) rfl (dk_Ta_refuse d) (Nat.le_of_ble_eq_true rfl) (Or.inl ⟨9, (((o_r1_9).mono hn2).mono hn3), rfl⟩) h ?_
        rintro _ μ12 ⟨v12, rfl, h⟩ hn12
        show G Γ m_Ho_readItems (d + 1) (0, 0) Q 46 [jk, .ref r1, .ref r2, .ref r3, .ref r4, .ref r5, .int x6, .int x7, .int v3] [.int v12] μ12
        exact g_retz (by decide +kernel) rfl h.1 h.2
    · replace h := h.1 hc
      show G Γ m_Ho_readItems (d + 1) (0, 0) Q 29 [jk, .ref r1, .ref r2, .ref r3, .ref r4, .ref r5, .int x6, .int x7, .int v3] [] μ3
      refine run_ok (pc' := 30) [(.iconst 1, 0, 0, 0)] _ _ _ _ (by decide +kernel) ?_
      show G Γ m_Ho_readItems (d + 1) (0, 0) Q 30 [jk, .ref r1, .ref r2, .ref r3, .ref r4, .ref r5, .int x6, .int x7, .int v3] [.int (w 1)] μ3
      exact g_retz (by decide +kernel) rfl (Or.inr rfl) h
/-! FrostBox$House isWhole()Z -/
set_option maxRecDepth 100000 in
theorem lk_1_131 : LkV 1 131 m_Pi_portionsInAll 0 := ⟨lc_Pi_portionsInAll, lwG_in (List.mem_of_getElem? (i := 552) rfl) rfl, lwG_in (List.mem_of_getElem? (i := 553) rfl) rfl, lwG_in (List.mem_of_getElem? (i := 554) rfl) rfl⟩
set_option maxRecDepth 100000 in
theorem B_Ho_isWhole_0 {Γ : XG} {d : Nat} {Q : Option Value → XM → Prop} {r0 r0_3 : Nat} {μ : XM} (o_r0_1 : ob μ r0 1) (e_r0_3 : xR μ r0 3 = some r0_3) (o_r0_3_6 : ob μ r0_3 6) (h : ((w 0 < xI μ r0 4 → Call Γ m_Pi_portionsInAll d [.ref r0_3] μ (KI (fun v1 μ1 => ∃ a2, xR μ1 r0 0 = some a2 ∧ inb μ1 0 a2 (w 0) ∧ ((xI μ1 a2 (w 0).toNatClampNeg < v1 → G Γ m_Ho_isWhole (d + 1) (0, 0) Q 31 [.ref r0, .int (w 0), .int (w 0)] [] μ1) ∧ (¬ xI μ1 a2 (w 0).toNatClampNeg < v1 → G Γ m_Ho_isWhole (d + 1) (0, 0) Q 31 [.ref r0, .int (w 1), .int (w 0)] [] μ1))))) ∧ (¬ w 0 < xI μ r0 4 → G Γ m_Ho_isWhole (d + 1) (0, 0) Q 31 [.ref r0, .int (w 0), .int (w 0)] [] μ))) : G Γ m_Ho_isWhole (d + 1) (0, 0) Q 0 [.ref r0] [] μ := by
  refine run_ok (pc' := 4) [(.aload_n 0, 0, 0, 0), (.getfield 39, 1, 4, 0)] _ _ _ _ (by decide +kernel) ?_
  show _ ∧ (_)
  refine ⟨o_r0_1, ?_⟩
  show G Γ m_Ho_isWhole (d + 1) (0, 0) Q 4 [.ref r0] [.int (xI μ r0 4)] μ
  refine g_ifz_le (pc' := 27) (off := 23) (by decide) (by decide +kernel) (fun hc => ?_) (fun hc => ?_)
  · replace h := h.2 hc
    show G Γ m_Ho_isWhole (d + 1) (0, 0) Q 27 [.ref r0] [] μ
    refine run_ok (pc' := 31) [(.iconst 0, 0, 0, 0), (.istore_n 1, 0, 0, 0), (.iconst 0, 0, 0, 0), (.istore_n 2, 0, 0, 0)] _ _ _ _ (by decide +kernel) ?_
    show G Γ m_Ho_isWhole (d + 1) (0, 0) Q 31 [.ref r0, .int (w 0), .int (w 0)] [] μ
    exact h
  · replace h := h.1 hc
    show G Γ m_Ho_isWhole (d + 1) (0, 0) Q 7 [.ref r0] [] μ
    refine run_ok (pc' := 11) [(.aload_n 0, 0, 0, 0), (.getfield 35, 1, 3, 2)] _ _ _ _ (by decide +kernel) ?_
    show _ ∧ (∃ _, _ ∧ (_))
    refine ⟨o_r0_1, r0_3, e_r0_3, ?_⟩
    show G Γ m_Ho_isWhole (d + 1) (0, 0) Q 11 [.ref r0] [.ref r0_3] μ
    refine g_invV (M' := m_Pi_portionsInAll) (b1 := 0) (b2 := 0) (As := []) (a := r0_3) (st := []) lk_1_131 (by decide +kernel) rfl (dk_Pi_portionsInAll d) (Nat.le_of_ble_eq_true rfl) (Or.inl ⟨6, o_r0_3_6, rfl⟩) h ?_
    rintro _ μ1 ⟨v1, rfl, h⟩ hn1
    show G Γ m_Ho_isWhole (d + 1) (0, 0) Q 14 [.ref r0] [.int v1] μ1
    obtain ⟨a2, ea2, h⟩ := h
    obtain ⟨ib3, h⟩ := h
    refine run_ok (pc' := 20) [(.aload_n 0, 0, 0, 0), (.getfield 13, 1, 0, 2), (.iconst 0, 0, 0, 0), (.iaload, 0, 0, 0)] _ _ _ _ (by decide +kernel) ?_
    show _ ∧ (∃ _, _ ∧ (_ ∧ (_)))
    refine ⟨((o_r0_1).mono hn1), a2, ea2, ib3, ?_⟩
    show G Γ m_Ho_isWhole (d + 1) (0, 0) Q 20 [.ref r0] [.int (xI μ1 a2 (w 0).toNatClampNeg), .int v1] μ1
    refine g_icmp_gt (pc' := 27) (off := 7) (by decide) (by decide +kernel) (fun hc => ?_) (fun hc => ?_)
    · replace h := h.1 hc
      show G Γ m_Ho_isWhole (d + 1) (0, 0) Q 27 [.ref r0] [] μ1
      refine run_ok (pc' := 31) [(.iconst 0, 0, 0, 0), (.istore_n 1, 0, 0, 0), (.iconst 0, 0, 0, 0), (.istore_n 2, 0, 0, 0)] _ _ _ _ (by decide +kernel) ?_
      show G Γ m_Ho_isWhole (d + 1) (0, 0) Q 31 [.ref r0, .int (w 0), .int (w 0)] [] μ1
      exact h
    · replace h := h.2 hc
      show G Γ m_Ho_isWhole (d + 1) (0, 0) Q 23 [.ref r0] [] μ1
      refine run_ok (pc' := 31) [(.iconst 1, 0, 0, 0), (.goto 4, 0, 0, 0), (.istore_n 1, 0, 0, 0), (.iconst 0, 0, 0, 0), (.istore_n 2, 0, 0, 0)] _ _ _ _ (by decide +kernel) ?_
      show G Γ m_Ho_isWhole (d + 1) (0, 0) Q 31 [.ref r0, .int (w 1), .int (w 0)] [] μ1
      exact h
set_option maxRecDepth 100000 in
theorem B_Ho_isWhole_31 {Γ : XG} {d : Nat} {Q : Option Value → XM → Prop} {r0 r0_1 : Nat} {x1 x2 : Int32} {μ : XM} (o_r0_1 : ob μ r0 1) (e_r0_1 : xR μ r0 1 = some r0_1) (h : ((x2 < xI μ r0 4 → inb μ 8 r0_1 x2 ∧ ∃ a1, xR μ r0_1 x2.toNatClampNeg = some a1 ∧ inb μ 0 a1 (w 4) ∧ ((x1 = w 0 → G Γ m_Ho_isWhole (d + 1) (0, 0) Q 31 [.ref r0, .int (w 0), .int (x2 + w 1)] [] μ) ∧ (¬ x1 = w 0 → ((xI μ a1 (w 4).toNatClampNeg = w 6 → G Γ m_Ho_isWhole (d + 1) (0, 0) Q 31 [.ref r0, .int (w 1), .int (x2 + w 1)] [] μ) ∧ (¬ xI μ a1 (w 4).toNatClampNeg = w 6 → ((xI μ a1 (w 4).toNatClampNeg < xI μ r0 4 → G Γ m_Ho_isWhole (d + 1) (0, 0) Q 31 [.ref r0, .int (w 1), .int (x2 + w 1)] [] μ) ∧ (¬ xI μ a1 (w 4).toNatClampNeg < xI μ r0 4 → G Γ m_Ho_isWhole (d + 1) (0, 0) Q 31 [.ref r0, .int (w 0), .int (x2 + w 1)] [] μ))))))) ∧ (¬ x2 < xI μ r0 4 → G Γ m_Ho_isWhole (d + 1) (0, 0) Q 80 [.ref r0, .int x1, .int (w 0)] [] μ))) : G Γ m_Ho_isWhole (d + 1) (0, 0) Q 31 [.ref r0, .int x1, .int x2] [] μ := by
  refine run_ok (pc' := 36) [(.iload_n 2, 0, 0, 0), (.aload_n 0, 0, 0, 0), (.getfield 39, 1, 4, 0)] _ _ _ _ (by decide +kernel) ?_
  show _ ∧ (_)
  refine ⟨o_r0_1, ?_⟩
  show G Γ m_Ho_isWhole (d + 1) (0, 0) Q 36 [.ref r0, .int x1, .int x2] [.int (xI μ r0 4), .int x2] μ
  refine g_icmp_ge (pc' := 78) (off := 42) (by decide) (by decide +kernel) (fun hc => ?_) (fun hc => ?_)
  · replace h := h.2 hc
    show G Γ m_Ho_isWhole (d + 1) (0, 0) Q 78 [.ref r0, .int x1, .int x2] [] μ
    refine run_ok (pc' := 80) [(.iconst 0, 0, 0, 0), (.istore_n 2, 0, 0, 0)] _ _ _ _ (by decide +kernel) ?_
    show G Γ m_Ho_isWhole (d + 1) (0, 0) Q 80 [.ref r0, .int x1, .int (w 0)] [] μ
    exact h
  · replace h := h.1 hc
    show G Γ m_Ho_isWhole (d + 1) (0, 0) Q 39 [.ref r0, .int x1, .int x2] [] μ
    obtain ⟨ib1, h⟩ := h
    obtain ⟨a1, ea1, h⟩ := h
    obtain ⟨ib2, h⟩ := h
    refine run_ok (pc' := 49) [(.aload_n 0, 0, 0, 0), (.getfield 23, 1, 1, 2), (.iload_n 2, 0, 0, 0), (.aaload, 8, 0, 0), (.iconst 4, 0, 0, 0), (.iaload, 0, 0, 0), (.istore_n 3, 0, 0, 0), (.iload_n 1, 0, 0, 0)] _ _ _ _ (by decide +kernel) ?_
    show _ ∧ (∃ _, _ ∧ (_ ∧ (∃ _, _ ∧ (_ ∧ (_)))))
    refine ⟨o_r0_1, r0_1, e_r0_1, ib1, a1, ea1, ib2, ?_⟩
    show G Γ m_Ho_isWhole (d + 1) (0, 0) Q 49 [.ref r0, .int x1, .int x2, .int (xI μ a1 (w 4).toNatClampNeg)] [.int x1] μ
    refine g_ifz_eq (pc' := 70) (off := 21) (by decide) (by decide +kernel) (fun hc => ?_) (fun hc => ?_)
    · replace h := h.1 hc
      show G Γ m_Ho_isWhole (d + 1) (0, 0) Q 70 [.ref r0, .int x1, .int x2, .int (xI μ a1 (w 4).toNatClampNeg)] [] μ
      refine run_ok (pc' := 31) [(.iconst 0, 0, 0, 0), (.istore_n 1, 0, 0, 0), (.iinc 2 1, 0, 0, 0), (.goto (-44), 0, 0, 0)] _ _ _ _ (by decide +kernel) ?_
      show G Γ m_Ho_isWhole (d + 1) (0, 0) Q 31 [.ref r0, .int (w 0), .int (x2 + w 1), .int (xI μ a1 (w 4).toNatClampNeg)] [] μ
      exact g_wk (ls' := [.ref r0, .int (w 0), .int (x2 + w 1)]) ⟨Or.inr rfl, Or.inr rfl, Or.inr rfl, trivial⟩ h
    · replace h := h.2 hc
      show G Γ m_Ho_isWhole (d + 1) (0, 0) Q 52 [.ref r0, .int x1, .int x2, .int (xI μ a1 (w 4).toNatClampNeg)] [] μ
      refine run_ok (pc' := 55) [(.iload_n 3, 0, 0, 0), (.bipush 6, 0, 0, 0)] _ _ _ _ (by decide +kernel) ?_
      show G Γ m_Ho_isWhole (d + 1) (0, 0) Q 55 [.ref r0, .int x1, .int x2, .int (xI μ a1 (w 4).toNatClampNeg)] [.int (w 6), .int (xI μ a1 (w 4).toNatClampNeg)] μ
      refine g_icmp_eq (pc' := 66) (off := 11) (by decide) (by decide +kernel) (fun hc => ?_) (fun hc => ?_)
      · replace h := h.1 hc
        show G Γ m_Ho_isWhole (d + 1) (0, 0) Q 66 [.ref r0, .int x1, .int x2, .int (xI μ a1 (w 4).toNatClampNeg)] [] μ
        refine run_ok (pc' := 31) [(.iconst 1, 0, 0, 0), (.goto 4, 0, 0, 0), (.istore_n 1, 0, 0, 0), (.iinc 2 1, 0, 0, 0), (.goto (-44), 0, 0, 0)] _ _ _ _ (by decide +kernel) ?_
        show G Γ m_Ho_isWhole (d + 1) (0, 0) Q 31 [.ref r0, .int (w 1), .int (x2 + w 1), .int (xI μ a1 (w 4).toNatClampNeg)] [] μ
        exact g_wk (ls' := [.ref r0, .int (w 1), .int (x2 + w 1)]) ⟨Or.inr rfl, Or.inr rfl, Or.inr rfl, trivial⟩ h
      · replace h := h.2 hc
        show G Γ m_Ho_isWhole (d + 1) (0, 0) Q 58 [.ref r0, .int x1, .int x2, .int (xI μ a1 (w 4).toNatClampNeg)] [] μ
        refine run_ok (pc' := 63) [(.iload_n 3, 0, 0, 0), (.aload_n 0, 0, 0, 0), (.getfield 39, 1, 4, 0)] _ _ _ _ (by decide +kernel) ?_
        show _ ∧ (_)
        refine ⟨o_r0_1, ?_⟩
        show G Γ m_Ho_isWhole (d + 1) (0, 0) Q 63 [.ref r0, .int x1, .int x2, .int (xI μ a1 (w 4).toNatClampNeg)] [.int (xI μ r0 4), .int (xI μ a1 (w 4).toNatClampNeg)] μ
        refine g_icmp_ge (pc' := 70) (off := 7) (by decide) (by decide +kernel) (fun hc => ?_) (fun hc => ?_)
        · replace h := h.2 hc
          show G Γ m_Ho_isWhole (d + 1) (0, 0) Q 70 [.ref r0, .int x1, .int x2, .int (xI μ a1 (w 4).toNatClampNeg)] [] μ
          refine run_ok (pc' := 31) [(.iconst 0, 0, 0, 0), (.istore_n 1, 0, 0, 0), (.iinc 2 1, 0, 0, 0), (.goto (-44), 0, 0, 0)] _ _ _ _ (by decide +kernel) ?_
          show G Γ m_Ho_isWhole (d + 1) (0, 0) Q 31 [.ref r0, .int (w 0), .int (x2 + w 1), .int (xI μ a1 (w 4).toNatClampNeg)] [] μ
          exact g_wk (ls' := [.ref r0, .int (w 0), .int (x2 + w 1)]) ⟨Or.inr rfl, Or.inr rfl, Or.inr rfl, trivial⟩ h
        · replace h := h.1 hc
          show G Γ m_Ho_isWhole (d + 1) (0, 0) Q 66 [.ref r0, .int x1, .int x2, .int (xI μ a1 (w 4).toNatClampNeg)] [] μ
          refine run_ok (pc' := 31) [(.iconst 1, 0, 0, 0), (.goto 4, 0, 0, 0), (.istore_n 1, 0, 0, 0), (.iinc 2 1, 0, 0, 0), (.goto (-44), 0, 0, 0)] _ _ _ _ (by decide +kernel) ?_
          show G Γ m_Ho_isWhole (d + 1) (0, 0) Q 31 [.ref r0, .int (w 1), .int (x2 + w 1), .int (xI μ a1 (w 4).toNatClampNeg)] [] μ
          exact g_wk (ls' := [.ref r0, .int (w 1), .int (x2 + w 1)]) ⟨Or.inr rfl, Or.inr rfl, Or.inr rfl, trivial⟩ h
set_option maxRecDepth 100000 in
theorem B_Ho_isWhole_80 {Γ : XG} {d : Nat} {Q : Option Value → XM → Prop} {r0 r0_3 r0_3_0 : Nat} {x1 x2 : Int32} {μ : XM} (o_r0_1 : ob μ r0 1) (e_r0_3 : xR μ r0 3 = some r0_3) (o_r0_3_6 : ob μ r0_3 6) (e_r0_3_0 : xR μ r0_3 0 = some r0_3_0) (h : ((x2 < xI μ r0_3 4 → ((x1 = w 0 → G Γ m_Ho_isWhole (d + 1) (0, 0) Q 80 [.ref r0, .int (w 0), .int (x2 + w 1)] [] μ) ∧ (¬ x1 = w 0 → inb μ 0 r0_3_0 x2 ∧ ((xI μ r0_3_0 x2.toNatClampNeg < xI μ r0 4 → G Γ m_Ho_isWhole (d + 1) (0, 0) Q 80 [.ref r0, .int (w 1), .int (x2 + w 1)] [] μ) ∧ (¬ xI μ r0_3_0 x2.toNatClampNeg < xI μ r0 4 → G Γ m_Ho_isWhole (d + 1) (0, 0) Q 80 [.ref r0, .int (w 0), .int (x2 + w 1)] [] μ))))) ∧ (¬ x2 < xI μ r0_3 4 → ((x1 = w 0 ∨ x1 = w 1) ∧ Q (some (.int x1)) μ)))) : G Γ m_Ho_isWhole (d + 1) (0, 0) Q 80 [.ref r0, .int x1, .int x2] [] μ := by
  refine run_ok (pc' := 88) [(.iload_n 2, 0, 0, 0), (.aload_n 0, 0, 0, 0), (.getfield 35, 1, 3, 2), (.getfield 106, 6, 4, 0)] _ _ _ _ (by decide +kernel) ?_
  show _ ∧ (∃ _, _ ∧ (_ ∧ (_)))
  refine ⟨o_r0_1, r0_3, e_r0_3, o_r0_3_6, ?_⟩
  show G Γ m_Ho_isWhole (d + 1) (0, 0) Q 88 [.ref r0, .int x1, .int x2] [.int (xI μ r0_3 4), .int x2] μ
  refine g_icmp_ge (pc' := 123) (off := 35) (by decide) (by decide +kernel) (fun hc => ?_) (fun hc => ?_)
  · replace h := h.2 hc
    show G Γ m_Ho_isWhole (d + 1) (0, 0) Q 123 [.ref r0, .int x1, .int x2] [] μ
    refine run_ok (pc' := 124) [(.iload_n 1, 0, 0, 0)] _ _ _ _ (by decide +kernel) ?_
    show G Γ m_Ho_isWhole (d + 1) (0, 0) Q 124 [.ref r0, .int x1, .int x2] [.int x1] μ
    exact g_retz (by decide +kernel) rfl h.1 h.2
  · replace h := h.1 hc
    show G Γ m_Ho_isWhole (d + 1) (0, 0) Q 91 [.ref r0, .int x1, .int x2] [] μ
    refine run_ok (pc' := 92) [(.iload_n 1, 0, 0, 0)] _ _ _ _ (by decide +kernel) ?_
    show G Γ m_Ho_isWhole (d + 1) (0, 0) Q 92 [.ref r0, .int x1, .int x2] [.int x1] μ
    refine g_ifz_eq (pc' := 115) (off := 23) (by decide) (by decide +kernel) (fun hc => ?_) (fun hc => ?_)
    · replace h := h.1 hc
      show G Γ m_Ho_isWhole (d + 1) (0, 0) Q 115 [.ref r0, .int x1, .int x2] [] μ
      refine run_ok (pc' := 80) [(.iconst 0, 0, 0, 0), (.istore_n 1, 0, 0, 0), (.iinc 2 1, 0, 0, 0), (.goto (-40), 0, 0, 0)] _ _ _ _ (by decide +kernel) ?_
      show G Γ m_Ho_isWhole (d + 1) (0, 0) Q 80 [.ref r0, .int (w 0), .int (x2 + w 1)] [] μ
      exact h
    · replace h := h.2 hc
      show G Γ m_Ho_isWhole (d + 1) (0, 0) Q 95 [.ref r0, .int x1, .int x2] [] μ
      obtain ⟨ib1, h⟩ := h
      refine run_ok (pc' := 108) [(.aload_n 0, 0, 0, 0), (.getfield 35, 1, 3, 2), (.getfield 134, 6, 0, 2), (.iload_n 2, 0, 0, 0), (.iaload, 0, 0, 0), (.aload_n 0, 0, 0, 0), (.getfield 39, 1, 4, 0)] _ _ _ _ (by decide +kernel) ?_
      show _ ∧ (∃ _, _ ∧ (_ ∧ (∃ _, _ ∧ (_ ∧ (_ ∧ (_))))))
      refine ⟨o_r0_1, r0_3, e_r0_3, o_r0_3_6, r0_3_0, e_r0_3_0, ib1, o_r0_1, ?_⟩
      show G Γ m_Ho_isWhole (d + 1) (0, 0) Q 108 [.ref r0, .int x1, .int x2] [.int (xI μ r0 4), .int (xI μ r0_3_0 x2.toNatClampNeg)] μ
      refine g_icmp_ge (pc' := 115) (off := 7) (by decide) (by decide +kernel) (fun hc => ?_) (fun hc => ?_)
      · replace h := h.2 hc
        show G Γ m_Ho_isWhole (d + 1) (0, 0) Q 115 [.ref r0, .int x1, .int x2] [] μ
        refine run_ok (pc' := 80) [(.iconst 0, 0, 0, 0), (.istore_n 1, 0, 0, 0), (.iinc 2 1, 0, 0, 0), (.goto (-40), 0, 0, 0)] _ _ _ _ (by decide +kernel) ?_
        show G Γ m_Ho_isWhole (d + 1) (0, 0) Q 80 [.ref r0, .int (w 0), .int (x2 + w 1)] [] μ
        exact h
      · replace h := h.1 hc
        show G Γ m_Ho_isWhole (d + 1) (0, 0) Q 111 [.ref r0, .int x1, .int x2] [] μ
        refine run_ok (pc' := 80) [(.iconst 1, 0, 0, 0), (.goto 4, 0, 0, 0), (.istore_n 1, 0, 0, 0), (.iinc 2 1, 0, 0, 0), (.goto (-40), 0, 0, 0)] _ _ _ _ (by decide +kernel) ?_
        show G Γ m_Ho_isWhole (d + 1) (0, 0) Q 80 [.ref r0, .int (w 1), .int (x2 + w 1)] [] μ
        exact h
/-! FrostBox$House kindsWith(I)I -/
set_option maxRecDepth 100000 in
theorem B_Ho_kindsWith_0 {Γ : XG} {d : Nat} {Q : Option Value → XM → Prop} {r0 : Nat} {x1 : Int32} {μ : XM}  (h : G Γ m_Ho_kindsWith (d + 1) (0, 0) Q 6 [.ref r0, .int x1, .int ((w 1) <<< (x1 &&& 31)), .int (w 0)] [] μ) : G Γ m_Ho_kindsWith (d + 1) (0, 0) Q 0 [.ref r0, .int x1] [] μ := by
  refine run_ok (pc' := 6) [(.iconst 1, 0, 0, 0), (.iload_n 1, 0, 0, 0), (.ishl, 0, 0, 0), (.istore_n 2, 0, 0, 0), (.iconst 0, 0, 0, 0), (.istore_n 3, 0, 0, 0)] _ _ _ _ (by decide +kernel) ?_
  show G Γ m_Ho_kindsWith (d + 1) (0, 0) Q 6 [.ref r0, .int x1, .int ((w 1) <<< (x1 &&& 31)), .int (w 0)] [] μ
  exact h
set_option maxRecDepth 100000 in
theorem B_Ho_kindsWith_6 {Γ : XG} {d : Nat} {Q : Option Value → XM → Prop} {r0 r0_1 : Nat} {x1 x2 x3 : Int32} {μ : XM} (o_r0_1 : ob μ r0 1) (e_r0_1 : xR μ r0 1 = some r0_1) (h : ((x3 < xI μ r0 4 → inb μ 8 r0_1 x3 ∧ ∃ a1, xR μ r0_1 x3.toNatClampNeg = some a1 ∧ inb μ 0 a1 (w 4) ∧ ((xI μ a1 (w 4).toNatClampNeg = x1 → G Γ m_Ho_kindsWith (d + 1) (0, 0) Q 6 [.ref r0, .int x1, .int (x2 ||| ((w 1) <<< (x3 &&& 31))), .int (x3 + w 1)] [] μ) ∧ (¬ xI μ a1 (w 4).toNatClampNeg = x1 → inb μ 8 r0_1 x1 ∧ ∃ a3, xR μ r0_1 x1.toNatClampNeg = some a3 ∧ inb μ 0 a3 (w 4) ∧ ((xI μ a3 (w 4).toNatClampNeg = x3 → G Γ m_Ho_kindsWith (d + 1) (0, 0) Q 6 [.ref r0, .int x1, .int (x2 ||| ((w 1) <<< (x3 &&& 31))), .int (x3 + w 1)] [] μ) ∧ (¬ xI μ a3 (w 4).toNatClampNeg = x3 → G Γ m_Ho_kindsWith (d + 1) (0, 0) Q 6 [.ref r0, .int x1, .int x2, .int (x3 + w 1)] [] μ))))) ∧ (¬ x3 < xI μ r0 4 → Q (some (.int x2)) μ))) : G Γ m_Ho_kindsWith (d + 1) (0, 0) Q 6 [.ref r0, .int x1, .int x2, .int x3] [] μ := by
  refine run_ok (pc' := 11) [(.iload_n 3, 0, 0, 0), (.aload_n 0, 0, 0, 0), (.getfield 39, 1, 4, 0)] _ _ _ _ (by decide +kernel) ?_
  show _ ∧ (_)
  refine ⟨o_r0_1, ?_⟩
  show G Γ m_Ho_kindsWith (d + 1) (0, 0) Q 11 [.ref r0, .int x1, .int x2, .int x3] [.int (xI μ r0 4), .int x3] μ
  refine g_icmp_ge (pc' := 50) (off := 39) (by decide) (by decide +kernel) (fun hc => ?_) (fun hc => ?_)
  · replace h := h.2 hc
    show G Γ m_Ho_kindsWith (d + 1) (0, 0) Q 50 [.ref r0, .int x1, .int x2, .int x3] [] μ
    refine run_ok (pc' := 51) [(.iload_n 2, 0, 0, 0)] _ _ _ _ (by decide +kernel) ?_
    show G Γ m_Ho_kindsWith (d + 1) (0, 0) Q 51 [.ref r0, .int x1, .int x2, .int x3] [.int x2] μ
    exact g_reti (by decide +kernel) rfl h
  · replace h := h.1 hc
    show G Γ m_Ho_kindsWith (d + 1) (0, 0) Q 14 [.ref r0, .int x1, .int x2, .int x3] [] μ
    obtain ⟨ib1, h⟩ := h
    obtain ⟨a1, ea1, h⟩ := h
    obtain ⟨ib2, h⟩ := h
    refine run_ok (pc' := 23) [(.aload_n 0, 0, 0, 0), (.getfield 23, 1, 1, 2), (.iload_n 3, 0, 0, 0), (.aaload, 8, 0, 0), (.iconst 4, 0, 0, 0), (.iaload, 0, 0, 0), (.iload_n 1, 0, 0, 0)] _ _ _ _ (by decide +kernel) ?_
    show _ ∧ (∃ _, _ ∧ (_ ∧ (∃ _, _ ∧ (_ ∧ (_)))))
    refine ⟨o_r0_1, r0_1, e_r0_1, ib1, a1, ea1, ib2, ?_⟩
    show G Γ m_Ho_kindsWith (d + 1) (0, 0) Q 23 [.ref r0, .int x1, .int x2, .int x3] [.int x1, .int (xI μ a1 (w 4).toNatClampNeg)] μ
    refine g_icmp_eq (pc' := 38) (off := 15) (by decide) (by decide +kernel) (fun hc => ?_) (fun hc => ?_)
    · replace h := h.1 hc
      show G Γ m_Ho_kindsWith (d + 1) (0, 0) Q 38 [.ref r0, .int x1, .int x2, .int x3] [] μ
      refine run_ok (pc' := 6) [(.iload_n 2, 0, 0, 0), (.iconst 1, 0, 0, 0), (.iload_n 3, 0, 0, 0), (.ishl, 0, 0, 0), (.ior, 0, 0, 0), (.istore_n 2, 0, 0, 0), (.iinc 3 1, 0, 0, 0), (.goto (-41), 0, 0, 0)] _ _ _ _ (by decide +kernel) ?_
      show G Γ m_Ho_kindsWith (d + 1) (0, 0) Q 6 [.ref r0, .int x1, .int (x2 ||| ((w 1) <<< (x3 &&& 31))), .int (x3 + w 1)] [] μ
      exact h
    · replace h := h.2 hc
      show G Γ m_Ho_kindsWith (d + 1) (0, 0) Q 26 [.ref r0, .int x1, .int x2, .int x3] [] μ
      obtain ⟨ib3, h⟩ := h
      obtain ⟨a3, ea3, h⟩ := h
      obtain ⟨ib4, h⟩ := h
      refine run_ok (pc' := 35) [(.aload_n 0, 0, 0, 0), (.getfield 23, 1, 1, 2), (.iload_n 1, 0, 0, 0), (.aaload, 8, 0, 0), (.iconst 4, 0, 0, 0), (.iaload, 0, 0, 0), (.iload_n 3, 0, 0, 0)] _ _ _ _ (by decide +kernel) ?_
      show _ ∧ (∃ _, _ ∧ (_ ∧ (∃ _, _ ∧ (_ ∧ (_)))))
      refine ⟨o_r0_1, r0_1, e_r0_1, ib3, a3, ea3, ib4, ?_⟩
      show G Γ m_Ho_kindsWith (d + 1) (0, 0) Q 35 [.ref r0, .int x1, .int x2, .int x3] [.int x3, .int (xI μ a3 (w 4).toNatClampNeg)] μ
      refine g_icmp_ne (pc' := 44) (off := 9) (by decide) (by decide +kernel) (fun hc => ?_) (fun hc => ?_)
      · replace h := h.2 hc
        show G Γ m_Ho_kindsWith (d + 1) (0, 0) Q 44 [.ref r0, .int x1, .int x2, .int x3] [] μ
        refine run_ok (pc' := 6) [(.iinc 3 1, 0, 0, 0), (.goto (-41), 0, 0, 0)] _ _ _ _ (by decide +kernel) ?_
        show G Γ m_Ho_kindsWith (d + 1) (0, 0) Q 6 [.ref r0, .int x1, .int x2, .int (x3 + w 1)] [] μ
        exact h
      · replace h := h.1 hc
        show G Γ m_Ho_kindsWith (d + 1) (0, 0) Q 38 [.ref r0, .int x1, .int x2, .int x3] [] μ
        refine run_ok (pc' := 6) [(.iload_n 2, 0, 0, 0), (.iconst 1, 0, 0, 0), (.iload_n 3, 0, 0, 0), (.ishl, 0, 0, 0), (.ior, 0, 0, 0), (.istore_n 2, 0, 0, 0), (.iinc 3 1, 0, 0, 0), (.goto (-41), 0, 0, 0)] _ _ _ _ (by decide +kernel) ?_
        show G Γ m_Ho_kindsWith (d + 1) (0, 0) Q 6 [.ref r0, .int x1, .int (x2 ||| ((w 1) <<< (x3 &&& 31))), .int (x3 + w 1)] [] μ
        exact h
/-! FrostBox$House portionsThatWeigh(II)I -/
set_option maxRecDepth 100000 in
theorem B_Ho_portionsThatWeigh_0 {Γ : XG} {d : Nat} {Q : Option Value → XM → Prop} {r0 r0_1 : Nat} {x1 x2 : Int32} {μ : XM} (o_r0_1 : ob μ r0 1) (e_r0_1 : xR μ r0 1 = some r0_1) (h : inb μ 8 r0_1 x1 ∧ ∃ a1, xR μ r0_1 x1.toNatClampNeg = some a1 ∧ inb μ 0 a1 (w 1) ∧ ((w 0 < xI μ a1 (w 1).toNatClampNeg → ¬ (xI μ a1 (w 1).toNatClampNeg) = 0 ∧ ((x2 - x2 / (xI μ a1 (w 1).toNatClampNeg) * (xI μ a1 (w 1).toNatClampNeg) = w 0 → ¬ (xI μ a1 (w 1).toNatClampNeg) = 0 ∧ ((x2 / (xI μ a1 (w 1).toNatClampNeg) < w 1 → Q (some (.int (w (-1)))) μ) ∧ (¬ x2 / (xI μ a1 (w 1).toNatClampNeg) < w 1 → ((w 9 < x2 / (xI μ a1 (w 1).toNatClampNeg) → Q (some (.int (w (-1)))) μ) ∧ (¬ w 9 < x2 / (xI μ a1 (w 1).toNatClampNeg) → Q (some (.int (x2 / (xI μ a1 (w 1).toNatClampNeg)))) μ))))) ∧ (¬ x2 - x2 / (xI μ a1 (w 1).toNatClampNeg) * (xI μ a1 (w 1).toNatClampNeg) = w 0 → Q (some (.int (w (-1)))) μ))) ∧ (¬ w 0 < xI μ a1 (w 1).toNatClampNeg → Q (some (.int (w (-1)))) μ))) : G Γ m_Ho_portionsThatWeigh (d + 1) (0, 0) Q 0 [.ref r0, .int x1, .int x2] [] μ := by
  obtain ⟨ib1, h⟩ := h
  obtain ⟨a1, ea1, h⟩ := h
  obtain ⟨ib2, h⟩ := h
  refine run_ok (pc' := 10) [(.aload_n 0, 0, 0, 0), (.getfield 23, 1, 1, 2), (.iload_n 1, 0, 0, 0), (.aaload, 8, 0, 0), (.iconst 1, 0, 0, 0), (.iaload, 0, 0, 0), (.istore_n 3, 0, 0, 0), (.iload_n 3, 0, 0, 0)] _ _ _ _ (by decide +kernel) ?_
  show _ ∧ (∃ _, _ ∧ (_ ∧ (∃ _, _ ∧ (_ ∧ (_)))))
  refine ⟨o_r0_1, r0_1, e_r0_1, ib1, a1, ea1, ib2, ?_⟩
  show G Γ m_Ho_portionsThatWeigh (d + 1) (0, 0) Q 10 [.ref r0, .int x1, .int x2, .int (xI μ a1 (w 1).toNatClampNeg)] [.int (xI μ a1 (w 1).toNatClampNeg)] μ
  refine g_ifz_le (pc' := 19) (off := 9) (by decide) (by decide +kernel) (fun hc => ?_) (fun hc => ?_)
  · replace h := h.2 hc
    show G Γ m_Ho_portionsThatWeigh (d + 1) (0, 0) Q 19 [.ref r0, .int x1, .int x2, .int (xI μ a1 (w 1).toNatClampNeg)] [] μ
    refine run_ok (pc' := 20) [(.iconst (-1), 0, 0, 0)] _ _ _ _ (by decide +kernel) ?_
    show G Γ m_Ho_portionsThatWeigh (d + 1) (0, 0) Q 20 [.ref r0, .int x1, .int x2, .int (xI μ a1 (w 1).toNatClampNeg)] [.int (w (-1))] μ
    exact g_reti (by decide +kernel) rfl h
  · replace h := h.1 hc
    show G Γ m_Ho_portionsThatWeigh (d + 1) (0, 0) Q 13 [.ref r0, .int x1, .int x2, .int (xI μ a1 (w 1).toNatClampNeg)] [] μ
    obtain ⟨nz3, h⟩ := h
    refine run_ok (pc' := 16) [(.iload_n 2, 0, 0, 0), (.iload_n 3, 0, 0, 0), (.irem, 0, 0, 0)] _ _ _ _ (by decide +kernel) ?_
    show _ ∧ (_)
    refine ⟨nz3, ?_⟩
    show G Γ m_Ho_portionsThatWeigh (d + 1) (0, 0) Q 16 [.ref r0, .int x1, .int x2, .int (xI μ a1 (w 1).toNatClampNeg)] [.int (x2 - x2 / (xI μ a1 (w 1).toNatClampNeg) * (xI μ a1 (w 1).toNatClampNeg))] μ
    refine g_ifz_eq (pc' := 21) (off := 5) (by decide) (by decide +kernel) (fun hc => ?_) (fun hc => ?_)
    · replace h := h.1 hc
      show G Γ m_Ho_portionsThatWeigh (d + 1) (0, 0) Q 21 [.ref r0, .int x1, .int x2, .int (xI μ a1 (w 1).toNatClampNeg)] [] μ
      obtain ⟨nz4, h⟩ := h
      refine run_ok (pc' := 29) [(.iload_n 2, 0, 0, 0), (.iload_n 3, 0, 0, 0), (.idiv, 0, 0, 0), (.istore 4, 0, 0, 0), (.iload 4, 0, 0, 0), (.iconst 1, 0, 0, 0)] _ _ _ _ (by decide +kernel) ?_
      show _ ∧ (_)
      refine ⟨nz4, ?_⟩
      show G Γ m_Ho_portionsThatWeigh (d + 1) (0, 0) Q 29 [.ref r0, .int x1, .int x2, .int (xI μ a1 (w 1).toNatClampNeg), .int (x2 / (xI μ a1 (w 1).toNatClampNeg))] [.int (w 1), .int (x2 / (xI μ a1 (w 1).toNatClampNeg))] μ
      refine g_icmp_lt (pc' := 44) (off := 15) (by decide) (by decide +kernel) (fun hc => ?_) (fun hc => ?_)
      · replace h := h.1 hc
        show G Γ m_Ho_portionsThatWeigh (d + 1) (0, 0) Q 44 [.ref r0, .int x1, .int x2, .int (xI μ a1 (w 1).toNatClampNeg), .int (x2 / (xI μ a1 (w 1).toNatClampNeg))] [] μ
        refine run_ok (pc' := 45) [(.iconst (-1), 0, 0, 0)] _ _ _ _ (by decide +kernel) ?_
        show G Γ m_Ho_portionsThatWeigh (d + 1) (0, 0) Q 45 [.ref r0, .int x1, .int x2, .int (xI μ a1 (w 1).toNatClampNeg), .int (x2 / (xI μ a1 (w 1).toNatClampNeg))] [.int (w (-1))] μ
        exact g_reti (by decide +kernel) rfl h
      · replace h := h.2 hc
        show G Γ m_Ho_portionsThatWeigh (d + 1) (0, 0) Q 32 [.ref r0, .int x1, .int x2, .int (xI μ a1 (w 1).toNatClampNeg), .int (x2 / (xI μ a1 (w 1).toNatClampNeg))] [] μ
        refine run_ok (pc' := 36) [(.iload 4, 0, 0, 0), (.bipush 9, 0, 0, 0)] _ _ _ _ (by decide +kernel) ?_
        show G Γ m_Ho_portionsThatWeigh (d + 1) (0, 0) Q 36 [.ref r0, .int x1, .int x2, .int (xI μ a1 (w 1).toNatClampNeg), .int (x2 / (xI μ a1 (w 1).toNatClampNeg))] [.int (w 9), .int (x2 / (xI μ a1 (w 1).toNatClampNeg))] μ
        refine g_icmp_gt (pc' := 44) (off := 8) (by decide) (by decide +kernel) (fun hc => ?_) (fun hc => ?_)
        · replace h := h.1 hc
          show G Γ m_Ho_portionsThatWeigh (d + 1) (0, 0) Q 44 [.ref r0, .int x1, .int x2, .int (xI μ a1 (w 1).toNatClampNeg), .int (x2 / (xI μ a1 (w 1).toNatClampNeg))] [] μ
          refine run_ok (pc' := 45) [(.iconst (-1), 0, 0, 0)] _ _ _ _ (by decide +kernel) ?_
          show G Γ m_Ho_portionsThatWeigh (d + 1) (0, 0) Q 45 [.ref r0, .int x1, .int x2, .int (xI μ a1 (w 1).toNatClampNeg), .int (x2 / (xI μ a1 (w 1).toNatClampNeg))] [.int (w (-1))] μ
          exact g_reti (by decide +kernel) rfl h
        · replace h := h.2 hc
          show G Γ m_Ho_portionsThatWeigh (d + 1) (0, 0) Q 39 [.ref r0, .int x1, .int x2, .int (xI μ a1 (w 1).toNatClampNeg), .int (x2 / (xI μ a1 (w 1).toNatClampNeg))] [] μ
          refine run_ok (pc' := 45) [(.iload 4, 0, 0, 0), (.goto 4, 0, 0, 0)] _ _ _ _ (by decide +kernel) ?_
          show G Γ m_Ho_portionsThatWeigh (d + 1) (0, 0) Q 45 [.ref r0, .int x1, .int x2, .int (xI μ a1 (w 1).toNatClampNeg), .int (x2 / (xI μ a1 (w 1).toNatClampNeg))] [.int (x2 / (xI μ a1 (w 1).toNatClampNeg))] μ
          exact g_reti (by decide +kernel) rfl h
    · replace h := h.2 hc
      show G Γ m_Ho_portionsThatWeigh (d + 1) (0, 0) Q 19 [.ref r0, .int x1, .int x2, .int (xI μ a1 (w 1).toNatClampNeg)] [] μ
      refine run_ok (pc' := 20) [(.iconst (-1), 0, 0, 0)] _ _ _ _ (by decide +kernel) ?_
      show G Γ m_Ho_portionsThatWeigh (d + 1) (0, 0) Q 20 [.ref r0, .int x1, .int x2, .int (xI μ a1 (w 1).toNatClampNeg)] [.int (w (-1))] μ
      exact g_reti (by decide +kernel) rfl h
