/-! FrostBox$Plan readFrom(LFrostBox$Tape;)Z -/
set_option maxRecDepth 100000 in
theorem lk_7_28 : LkV 7 28 m_Ta_rewind 0 := ⟨lc_Ta_rewind, lwG_in (List.mem_of_getElem? (i := 616) rfl) rfl, lwG_in (List.mem_of_getElem? (i := 487) rfl) rfl, lwG_in (List.mem_of_getElem? (i := 488) rfl) rfl⟩
set_option maxRecDepth 100000 in
theorem lk_7_45 : LkV 7 45 m_Ta_refuse 0 := ⟨lc_Ta_refuse, lwG_in (List.mem_of_getElem? (i := 625) rfl) rfl, lwG_in (List.mem_of_getElem? (i := 516) rfl) rfl, lwG_in (List.mem_of_getElem? (i := 517) rfl) rfl⟩
set_option maxRecDepth 100000 in
theorem lk_7_41 : LkV 7 41 m_Ta_demand 1 := ⟨lc_Ta_demand, lwG_in (List.mem_of_getElem? (i := 640) rfl) rfl, lwG_in (List.mem_of_getElem? (i := 557) rfl) rfl, lwG_in (List.mem_of_getElem? (i := 558) rfl) rfl⟩
set_option maxRecDepth 100000 in
theorem lk_7_37 : LkV 7 37 m_Ta_ahead 0 := ⟨lc_Ta_ahead, lwG_in (List.mem_of_getElem? (i := 623) rfl) rfl, lwG_in (List.mem_of_getElem? (i := 495) rfl) rfl, lwG_in (List.mem_of_getElem? (i := 496) rfl) rfl⟩
set_option maxRecDepth 100000 in
theorem lk_7_33 : LkV 7 33 m_Pl_readStep 2 := ⟨lc_Pl_readStep, lwG_in (List.mem_of_getElem? (i := 617) rfl) rfl, lwG_in (List.mem_of_getElem? (i := 619) rfl) rfl, lwG_in (List.mem_of_getElem? (i := 13) rfl) rfl⟩
set_option maxRecDepth 100000 in
theorem B_Pl_readFrom_0 {Γ : XG} {d : Nat} {Q : Option Value → XM → Prop} {r0 r1 : Nat} {μ : XM} (o_r0_7 : ob μ r0 7) (o_r1_9 : ob μ r1 9) (h : ∀ μ1, μ1 = sI μ r0 4 (w 0) → Call Γ m_Ta_rewind d [.ref r1] μ1 (KV (fun μ2 => G Γ m_Pl_readFrom (d + 1) (0, 0) Q 11 [.ref r0, .ref r1, .int (w 0)] [] μ2))) : G Γ m_Pl_readFrom (d + 1) (0, 0) Q 0 [.ref r0, .ref r1] [] μ := by
  refine run_ok (pc' := 5) [(.aload_n 0, 0, 0, 0), (.iconst 0, 0, 0, 0), (.putfield 24, 7, 4, 0)] _ _ _ _ (by decide +kernel) ?_
  show _ ∧ (_)
  refine ⟨o_r0_7, ?_⟩
  show G Γ m_Pl_readFrom (d + 1) (0, 0) Q 5 [.ref r0, .ref r1] [] (sI μ r0 4 (w 0))
  obtain ⟨μ1, em1⟩ : ∃ m : XM, m = sI μ r0 4 (w 0) := ⟨_, rfl⟩
  replace h := h μ1 em1
  have hm1 : xN μ ≤ xN μ1 := by rw [em1]; exact Nat.le_refl _
  rw [← em1]
  refine run_ok (pc' := 6) [(.aload_n 1, 0, 0, 0)] _ _ _ _ (by decide +kernel) ?_
  show G Γ m_Pl_readFrom (d + 1) (0, 0) Q 6 [.ref r0, .ref r1] [.ref r1] μ1
  refine g_invV (M' := m_Ta_rewind) (b1 := 0) (b2 := 0) (As := []) (a := r1) (st := []) lk_7_28 (by decide +kernel) rfl (dk_Ta_rewind d) (Nat.le_of_ble_eq_true rfl) (Or.inl ⟨9, ((o_r1_9).mono hm1), rfl⟩) h ?_
  rintro _ μ2 ⟨rfl, h⟩ hn2
  show G Γ m_Pl_readFrom (d + 1) (0, 0) Q 9 [.ref r0, .ref r1] [] μ2
  refine run_ok (pc' := 11) [(.iconst 0, 0, 0, 0), (.istore_n 2, 0, 0, 0)] _ _ _ _ (by decide +kernel) ?_
  show G Γ m_Pl_readFrom (d + 1) (0, 0) Q 11 [.ref r0, .ref r1, .int (w 0)] [] μ2
  exact h
set_option maxRecDepth 100000 in
theorem B_Pl_readFrom_11 {Γ : XG} {d : Nat} {Q : Option Value → XM → Prop} {r0 r1 : Nat} {x2 : Int32} {μ : XM} (o_r1_9 : ob μ r1 9) (o_r0_7 : ob μ r0 7) (h : ((x2 < w 16 → Call Γ m_Pl_readStep d [.ref r0, .ref r1, .int x2] μ (KI (fun v2 μ2 => ((v2 = w 0 → Q (some (.int (w 0))) μ2) ∧ (¬ v2 = w 0 → ∀ μ3, μ3 = sI μ2 r0 4 ((xI μ2 r0 4) + (w 1)) → Call Γ m_Ta_ahead d [.ref r1] μ3 (KI (fun v4 μ4 => ((v4 = w (-1) → Q (some (.int (w 1))) μ4) ∧ (¬ v4 = w (-1) → ((xI μ4 r0 4 = w 16 → Call Γ m_Ta_refuse d [.ref r1] μ4 (KI (fun v5 μ5 => ((v5 = w 0 ∨ v5 = w 1) ∧ Q (some (.int v5)) μ5)))) ∧ (¬ xI μ4 r0 4 = w 16 → Call Γ m_Ta_demand d [.ref r1, .int (w 59)] μ4 (KI (fun v6 μ6 => ((v6 = w 0 → Call Γ m_Ta_refuse d [.ref r1] μ6 (KI (fun v7 μ7 => ((v7 = w 0 ∨ v7 = w 1) ∧ Q (some (.int v7)) μ7)))) ∧ (¬ v6 = w 0 → G Γ m_Pl_readFrom (d + 1) (0, 0) Q 11 [.ref r0, .ref r1, .int (x2 + w 1)] [] μ6))))))))))))))) ∧ (¬ x2 < w 16 → Call Γ m_Ta_refuse d [.ref r1] μ (KI (fun v1 μ1 => ((v1 = w 0 ∨ v1 = w 1) ∧ Q (some (.int v1)) μ1)))))) : G Γ m_Pl_readFrom (d + 1) (0, 0) Q 11 [.ref r0, .ref r1, .int x2] [] μ := by
  refine run_ok (pc' := 14) [(.iload_n 2, 0, 0, 0), (.bipush 16, 0, 0, 0)] _ _ _ _ (by decide +kernel) ?_
  show G Γ m_Pl_readFrom (d + 1) (0, 0) Q 14 [.ref r0, .ref r1, .int x2] [.int (w 16), .int x2] μ
  refine g_icmp_ge (pc' := 77) (off := 63) (by decide) (by decide +kernel) (fun hc => ?_) (fun hc => ?_)
  · replace h := h.2 hc
    show G Γ m_Pl_readFrom (d + 1) (0, 0) Q 77 [.ref r0, .ref r1, .int x2] [] μ
    refine run_ok (pc' := 78) [(.aload_n 1, 0, 0, 0)] _ _ _ _ (by decide +kernel) ?_
    show G Γ m_Pl_readFrom (d + 1) (0, 0) Q 78 [.ref r0, .ref r1, .int x2] [.ref r1] μ
    refine g_invV (M' := m_Ta_refuse) (b1 := 0) (b2 := 0) (As := []) (a := r1) (st := []) lk_7_45 (by decide +kernel) rfl (dk_Ta_refuse d) (Nat.le_of_ble_eq_true rfl) (Or.inl ⟨9, o_r1_9, rfl⟩) h ?_
    rintro _ μ1 ⟨v1, rfl, h⟩ hn1
    show G Γ m_Pl_readFrom (d + 1) (0, 0) Q 81 [.ref r0, .ref r1, .int x2] [.int v1] μ1
    exact g_retz (by decide +kernel) rfl h.1 h.2
  · replace h := h.1 hc
    show G Γ m_Pl_readFrom (d + 1) (0, 0) Q 17 [.ref r0, .ref r1, .int x2] [] μ
    refine run_ok (pc' := 20) [(.aload_n 0, 0, 0, 0), (.aload_n 1, 0, 0, 0), (.iload_n 2, 0, 0, 0)] _ _ _ _ (by decide +kernel) ?_
    show G Γ m_Pl_readFrom (d + 1) (0, 0) Q 20 [.ref r0, .ref r1, .int x2] [.int x2, .ref r1, .ref r0] μ
    refine g_invV (M' := m_Pl_readStep) (b1 := 0) (b2 := 0) (As := [.ref r1, .int x2]) (a := r0) (st := []) lk_7_33 (by decide +kernel) rfl (dk_Pl_readStep d) (Nat.le_of_ble_eq_true rfl) (Or.inl ⟨7, o_r0_7, rfl⟩) h ?_
    rintro _ μ2 ⟨v2, rfl, h⟩ hn2
    show G Γ m_Pl_readFrom (d + 1) (0, 0) Q 23 [.ref r0, .ref r1, .int x2] [.int v2] μ2
    refine g_ifz_ne (pc' := 28) (off := 5) (by decide) (by decide +kernel) (fun hc => ?_) (fun hc => ?_)
    · replace h := h.2 hc
      show G Γ m_Pl_readFrom (d + 1) (0, 0) Q 28 [.ref r0, .ref r1, .int x2] [] μ2
      refine run_ok (pc' := 38) [(.aload_n 0, 0, 0, 0), (.dup, 0, 0, 0), (.getfield 24, 7, 4, 0), (.iconst 1, 0, 0, 0), (.iadd, 0, 0, 0), (.putfield 24, 7, 4, 0)] _ _ _ _ (by decide +kernel) ?_
      show _ ∧ (_ ∧ (_))
      refine ⟨((o_r0_7).mono hn2), ((o_r0_7).mono hn2), ?_⟩
      show G Γ m_Pl_readFrom (d + 1) (0, 0) Q 38 [.ref r0, .ref r1, .int x2] [] (sI μ2 r0 4 ((xI μ2 r0 4) + (w 1)))
      obtain ⟨μ3, em3⟩ : ∃ m : XM, m = sI μ2 r0 4 ((xI μ2 r0 4) + (w 1)) := ⟨_, rfl⟩
      replace h := h μ3 em3
      have hm3 : xN μ2 ≤ xN μ3 := by rw [em3]; exact Nat.le_refl _
      rw [← em3]
      refine run_ok (pc' := 39) [(.aload_n 1, 0, 0, 0)] _ _ _ _ (by decide +kernel) ?_
      show G Γ m_Pl_readFrom (d + 1) (0, 0) Q 39 [.ref r0, .ref r1, .int x2] [.ref r1] μ3
      refine g_invV (M' := m_Ta_ahead) (b1 := 0) (b2 := 0) (As := []) (a := r1) (st := []) lk_7_37 (by decide +kernel) rfl (dk_Ta_ahead d) (Nat.le_of_ble_eq_true rfl) (Or.inl ⟨9, (((o_r1_9).mono hn2).mono hm3), rfl⟩) h ?_
      rintro _ μ4 ⟨v4, rfl, h⟩ hn4
      show G Γ m_Pl_readFrom (d + 1) (0, 0) Q 42 [.ref r0, .ref r1, .int x2] [.int v4] μ4
      refine run_ok (pc' := 43) [(.iconst (-1), 0, 0, 0)] _ _ _ _ (by decide +kernel) ?_
      show G Γ m_Pl_readFrom (d + 1) (0, 0) Q 43 [.ref r0, .ref r1, .int x2] [.int (w (-1)), .int v4] μ4
      refine g_icmp_ne (pc' := 48) (off := 5) (by decide) (by decide +kernel) (fun hc => ?_) (fun hc => ?_)
      · replace h := h.2 hc
        show G Γ m_Pl_readFrom (d + 1) (0, 0) Q 48 [.ref r0, .ref r1, .int x2] [] μ4
        refine run_ok (pc' := 54) [(.aload_n 0, 0, 0, 0), (.getfield 24, 7, 4, 0), (.bipush 16, 0, 0, 0)] _ _ _ _ (by decide +kernel) ?_
        show _ ∧ (_)
        refine ⟨((((o_r0_7).mono hn2).mono hm3).mono hn4), ?_⟩
        show G Γ m_Pl_readFrom (d + 1) (0, 0) Q 54 [.ref r0, .ref r1, .int x2] [.int (w 16), .int (xI μ4 r0 4)] μ4
        refine g_icmp_eq (pc' := 66) (off := 12) (by decide) (by decide +kernel) (fun hc => ?_) (fun hc => ?_)
        · replace h := h.1 hc
          show G Γ m_Pl_readFrom (d + 1) (0, 0) Q 66 [.ref r0, .ref r1, .int x2] [] μ4
          refine run_ok (pc' := 67) [(.aload_n 1, 0, 0, 0)] _ _ _ _ (by decide +kernel) ?_
          show G Γ m_Pl_readFrom (d + 1) (0, 0) Q 67 [.ref r0, .ref r1, .int x2] [.ref r1] μ4
          refine g_invV (M' := m_Ta_refuse) (b1 := 0) (b2 := 0) (As := []) (a := r1) (st := []) lk_7_45 (by decide +kernel) rfl (dk_Ta_refuse d) (Nat.le_of_ble_eq_true rfl) (Or.inl ⟨9, ((((o_r1_9).mono hn2).mono hm3).mono hn4), rfl⟩) h ?_
          rintro _ μ5 ⟨v5, rfl, h⟩ hn5
          show G Γ m_Pl_readFrom (d + 1) (0, 0) Q 70 [.ref r0, .ref r1, .int x2] [.int v5] μ5
          exact g_retz (by decide +kernel) rfl h.1 h.2
        · replace h := h.2 hc
          show G Γ m_Pl_readFrom (d + 1) (0, 0) Q 57 [.ref r0, .ref r1, .int x2] [] μ4
          refine run_ok (pc' := 60) [(.aload_n 1, 0, 0, 0), (.bipush 59, 0, 0, 0)] _ _ _ _ (by decide +kernel) ?_
          show G Γ m_Pl_readFrom (d + 1) (0, 0) Q 60 [.ref r0, .ref r1, .int x2] [.int (w 59), .ref r1] μ4
          refine g_invV (M' := m_Ta_demand) (b1 := 0) (b2 := 0) (As := [.int (w 59)]) (a := r1) (st := []) lk_7_41 (by decide +kernel) rfl (dk_Ta_demand d) (Nat.le_of_ble_eq_true rfl) (Or.inl ⟨9, ((((o_r1_9).mono hn2).mono hm3).mono hn4), rfl⟩) h ?_
          rintro _ μ6 ⟨v6, rfl, h⟩ hn6
          show G Γ m_Pl_readFrom (d + 1) (0, 0) Q 63 [.ref r0, .ref r1, .int x2] [.int v6] μ6
          refine g_ifz_ne (pc' := 71) (off := 8) (by decide) (by decide +kernel) (fun hc => ?_) (fun hc => ?_)
          · replace h := h.2 hc
            show G Γ m_Pl_readFrom (d + 1) (0, 0) Q 71 [.ref r0, .ref r1, .int x2] [] μ6
            refine run_ok (pc' := 11) [(.iinc 2 1, 0, 0, 0), (.goto (-63), 0, 0, 0)] _ _ _ _ (by decide +kernel) ?_
            show G Γ m_Pl_readFrom (d + 1) (0, 0) Q 11 [.ref r0, .ref r1, .int (x2 + w 1)] [] μ6
            exact h
          · replace h := h.1 hc
            show G Γ m_Pl_readFrom (d + 1) (0, 0) Q 66 [.ref r0, .ref r1, .int x2] [] μ6
            refine run_ok (pc' := 67) [(.aload_n 1, 0, 0, 0)] _ _ _ _ (by decide +kernel) ?_
            show G Γ m_Pl_readFrom (d + 1) (0, 0) Q 67 [.ref r0, .ref r1, .int x2] [.ref r1] μ6
            refine g_invV (M' := m_Ta_refuse) (b1 := 0) (b2 := 0) (As := []) (a := r1) (st := []) lk_7_45 (by decide +kernel) rfl (dk_Ta_refuse d) (Nat.le_of_ble_eq_true rfl) (Or.inl ⟨9, (((((o_r1_9).mono hn2).mono hm3).mono hn4).mono hn6), rfl⟩) h ?_
            rintro _ μ7 ⟨v7, rfl, h⟩ hn7
            show G Γ m_Pl_readFrom (d + 1) (0, 0) Q 70 [.ref r0, .ref r1, .int x2] [.int v7] μ7
            exact g_retz (by decide +kernel) rfl h.1 h.2
      · replace h := h.1 hc
        show G Γ m_Pl_readFrom (d + 1) (0, 0) Q 46 [.ref r0, .ref r1, .int x2] [] μ4
        refine run_ok (pc' := 47) [(.iconst 1, 0, 0, 0)] _ _ _ _ (by decide +kernel) ?_
        show G Γ m_Pl_readFrom (d + 1) (0, 0) Q 47 [.ref r0, .ref r1, .int x2] [.int (w 1)] μ4
        exact g_retz (by decide +kernel) rfl (Or.inr rfl) h
    · replace h := h.1 hc
      show G Γ m_Pl_readFrom (d + 1) (0, 0) Q 26 [.ref r0, .ref r1, .int x2] [] μ2
      refine run_ok (pc' := 27) [(.iconst 0, 0, 0, 0)] _ _ _ _ (by decide +kernel) ?_
      show G Γ m_Pl_readFrom (d + 1) (0, 0) Q 27 [.ref r0, .ref r1, .int x2] [.int (w 0)] μ2
      exact g_retz (by decide +kernel) rfl (Or.inl rfl) h
/-! FrostBox$Plan readStep(LFrostBox$Tape;I)Z -/
set_option maxRecDepth 100000 in
theorem lk_7_66 : LkV 7 66 m_Pl_readRestOfPut 2 := ⟨lc_Pl_readRestOfPut, lwG_in (List.mem_of_getElem? (i := 635) rfl) rfl, lwG_in (List.mem_of_getElem? (i := 637) rfl) rfl, lwG_in (List.mem_of_getElem? (i := 15) rfl) rfl⟩
set_option maxRecDepth 100000 in
theorem lk_7_63 : LkV 7 63 m_Pl_readSecondOfHours 2 := ⟨lc_Pl_readSecondOfHours, lwG_in (List.mem_of_getElem? (i := 631) rfl) rfl, lwG_in (List.mem_of_getElem? (i := 633) rfl) rfl, lwG_in (List.mem_of_getElem? (i := 14) rfl) rfl⟩
set_option maxRecDepth 100000 in
theorem lk_7_60 : LkV 7 60 m_Ta_digit 0 := ⟨lc_Ta_digit, lwG_in (List.mem_of_getElem? (i := 627) rfl) rfl, lwG_in (List.mem_of_getElem? (i := 628) rfl) rfl, lwG_in (List.mem_of_getElem? (i := 629) rfl) rfl⟩
set_option maxRecDepth 100000 in
theorem lk_7_57 : LkV 7 57 m_Ta_pass 0 := ⟨lc_Ta_pass, lwG_in (List.mem_of_getElem? (i := 626) rfl) rfl, lwG_in (List.mem_of_getElem? (i := 499) rfl) rfl, lwG_in (List.mem_of_getElem? (i := 500) rfl) rfl⟩
set_option maxRecDepth 100000 in
theorem lk_7_53 : LkSN 7 53 m_FB_placeAmong 2 := ⟨lc_FB_placeAmong, ⟨_, List.mem_of_getElem? (i := 624) rfl⟩, lwG_in (List.mem_of_getElem? (i := 513) rfl) rfl⟩
set_option maxRecDepth 100000 in
theorem B_Pl_readStep_0 {Γ : XG} {d : Nat} {Q : Option Value → XM → Prop} {r0 r1 r0_0 : Nat} {x2 : Int32} {μ : XM} (o_r0_7 : ob μ r0 7) (e_r0_0 : xR μ r0 0 = some r0_0) (o_r1_9 : ob μ r1 9) (h : Call Γ m_Ta_ahead d [.ref r1] μ (KI (fun v1 μ1 => Call Γ m_FB_placeAmong d [.ref 13, .int v1] μ1 (KI (fun v2 μ2 => inS μ2 0 r0_0 x2 ∧ ∀ μ4, μ4 = sI μ2 r0_0 x2.toNatClampNeg v2 → xR μ4 r0 0 = some r0_0 ∧ inb μ4 0 r0_0 x2 ∧ ((xI μ4 r0_0 x2.toNatClampNeg = w (-1) → Call Γ m_Ta_refuse d [.ref r1] μ4 (KI (fun v25 μ25 => ((v25 = w 0 ∨ v25 = w 1) ∧ Q (some (.int v25)) μ25)))) ∧ (¬ xI μ4 r0_0 x2.toNatClampNeg = w (-1) → Call Γ m_Ta_pass d [.ref r1] μ4 (KV (fun μ7 => ∃ a8, xR μ7 r0 1 = some a8 ∧ Call Γ m_Ta_digit d [.ref r1] μ7 (KI (fun v9 μ9 => inS μ9 0 a8 x2 ∧ ∀ μ11, μ11 = sI μ9 a8 x2.toNatClampNeg v9 → ∃ a12, xR μ11 r0 2 = some a12 ∧ inS μ11 0 a12 x2 ∧ ∀ μ14, μ14 = sI μ11 a12 x2.toNatClampNeg (w (-1)) → ∃ a15, xR μ14 r0 3 = some a15 ∧ inS μ14 0 a15 x2 ∧ ∀ μ17, μ17 = sI μ14 a15 x2.toNatClampNeg (w (-1)) → xR μ17 r0 1 = some a8 ∧ inb μ17 0 a8 x2 ∧ ((xI μ17 a8 x2.toNatClampNeg = w (-1) → Q (some (.int (w 0))) μ17) ∧ (¬ xI μ17 a8 x2.toNatClampNeg = w (-1) → xR μ17 r0 0 = some r0_0 ∧ inb μ17 0 r0_0 x2 ∧ ((xI μ17 r0_0 x2.toNatClampNeg = w 4 → Call Γ m_Pl_readSecondOfHours d [.ref r0, .ref r1, .int x2] μ17 (KI (fun v24 μ24 => ((v24 = w 0 ∨ v24 = w 1) ∧ Q (some (.int v24)) μ24)))) ∧ (¬ xI μ17 r0_0 x2.toNatClampNeg = w 4 → inb μ17 0 r0_0 x2 ∧ ((xI μ17 r0_0 x2.toNatClampNeg = w 0 → Call Γ m_Pl_readRestOfPut d [.ref r0, .ref r1, .int x2] μ17 (KI (fun v23 μ23 => ((v23 = w 0 → Q (some (.int (w 0))) μ23) ∧ (¬ v23 = w 0 → Q (some (.int (w 1))) μ23))))) ∧ (¬ xI μ17 r0_0 x2.toNatClampNeg = w 0 → Q (some (.int (w 1))) μ17))))))))))))))))) : G Γ m_Pl_readStep (d + 1) (0, 0) Q 0 [.ref r0, .ref r1, .int x2] [] μ := by
  refine run_ok (pc' := 9) [(.aload_n 0, 0, 0, 0), (.getfield 9, 7, 0, 2), (.iload_n 2, 0, 0, 0), (.getstatic 49, 1, 13, 0), (.aload_n 1, 0, 0, 0)] _ _ _ _ (by decide +kernel) ?_
  show _ ∧ (∃ _, _ ∧ (_))
  refine ⟨o_r0_7, r0_0, e_r0_0, ?_⟩
  show G Γ m_Pl_readStep (d + 1) (0, 0) Q 9 [.ref r0, .ref r1, .int x2] [.ref r1, .ref 13, .int x2, .ref r0_0] μ
  refine g_invV (M' := m_Ta_ahead) (b1 := 0) (b2 := 0) (As := []) (a := r1) (st := [.ref 13, .int x2, .ref r0_0]) lk_7_37 (by decide +kernel) rfl (dk_Ta_ahead d) (Nat.le_of_ble_eq_true rfl) (Or.inl ⟨9, o_r1_9, rfl⟩) h ?_
  rintro _ μ1 ⟨v1, rfl, h⟩ hn1
  show G Γ m_Pl_readStep (d + 1) (0, 0) Q 12 [.ref r0, .ref r1, .int x2] [.int v1, .ref 13, .int x2, .ref r0_0] μ1
  refine g_invSN (M' := m_FB_placeAmong) (b1 := 0) (b2 := 0) (As := [.ref 13, .int v1]) (st := [.int x2, .ref r0_0]) lk_7_53 (by decide +kernel) rfl (dk_FB_placeAmong d) (Nat.le_of_ble_eq_true rfl) h ?_
  rintro _ μ2 ⟨v2, rfl, h⟩ hn2
  show G Γ m_Pl_readStep (d + 1) (0, 0) Q 15 [.ref r0, .ref r1, .int x2] [.int v2, .int x2, .ref r0_0] μ2
  obtain ⟨is3, h⟩ := h
  refine run_ok (pc' := 16) [(.iastore, 0, 0, 0)] _ _ _ _ (by decide +kernel) ?_
  show _ ∧ (_)
  refine ⟨is3, ?_⟩
  show G Γ m_Pl_readStep (d + 1) (0, 0) Q 16 [.ref r0, .ref r1, .int x2] [] (sI μ2 r0_0 x2.toNatClampNeg v2)
  obtain ⟨μ4, em4⟩ : ∃ m : XM, m = sI μ2 r0_0 x2.toNatClampNeg v2 := ⟨_, rfl⟩
  replace h := h μ4 em4
  have hm4 : xN μ2 ≤ xN μ4 := by rw [em4]; exact Nat.le_refl _
  rw [← em4]
  obtain ⟨ea5, h⟩ := h
  obtain ⟨ib6, h⟩ := h
  refine run_ok (pc' := 23) [(.aload_n 0, 0, 0, 0), (.getfield 9, 7, 0, 2), (.iload_n 2, 0, 0, 0), (.iaload, 0, 0, 0), (.iconst (-1), 0, 0, 0)] _ _ _ _ (by decide +kernel) ?_
  show _ ∧ (∃ _, _ ∧ (_ ∧ (_)))
  refine ⟨((((o_r0_7).mono hn1).mono hn2).mono hm4), r0_0, ea5, ib6, ?_⟩
  show G Γ m_Pl_readStep (d + 1) (0, 0) Q 23 [.ref r0, .ref r1, .int x2] [.int (w (-1)), .int (xI μ4 r0_0 x2.toNatClampNeg)] μ4
  refine g_icmp_ne (pc' := 31) (off := 8) (by decide) (by decide +kernel) (fun hc => ?_) (fun hc => ?_)
  · replace h := h.2 hc
    show G Γ m_Pl_readStep (d + 1) (0, 0) Q 31 [.ref r0, .ref r1, .int x2] [] μ4
    refine run_ok (pc' := 32) [(.aload_n 1, 0, 0, 0)] _ _ _ _ (by decide +kernel) ?_
    show G Γ m_Pl_readStep (d + 1) (0, 0) Q 32 [.ref r0, .ref r1, .int x2] [.ref r1] μ4
    refine g_invV (M' := m_Ta_pass) (b1 := 0) (b2 := 0) (As := []) (a := r1) (st := []) lk_7_57 (by decide +kernel) rfl (dk_Ta_pass d) (Nat.le_of_ble_eq_true rfl) (Or.inl ⟨9, ((((o_r1_9).mono hn1).mono hn2).mono hm4), rfl⟩) h ?_
    rintro _ μ7 ⟨rfl, h⟩ hn7
    show G Γ m_Pl_readStep (d + 1) (0, 0) Q 35 [.ref r0, .ref r1, .int x2] [] μ7
    obtain ⟨a8, ea8, h⟩ := h
    refine run_ok (pc' := 41) [(.aload_n 0, 0, 0, 0), (.getfield 15, 7, 1, 2), (.iload_n 2, 0, 0, 0), (.aload_n 1, 0, 0, 0)] _ _ _ _ (by decide +kernel) ?_
    show _ ∧ (∃ _, _ ∧ (_))
    refine ⟨(((((o_r0_7).mono hn1).mono hn2).mono hm4).mono hn7), a8, ea8, ?_⟩
    show G Γ m_Pl_readStep (d + 1) (0, 0) Q 41 [.ref r0, .ref r1, .int x2] [.ref r1, .int x2, .ref a8] μ7
    refine g_invV (M' := m_Ta_digit) (b1 := 0) (b2 := 0) (As := []) (a := r1) (st := [.int x2, .ref a8]) lk_7_60 (by decide +kernel) rfl (dk_Ta_digit d) (Nat.le_of_ble_eq_true rfl) (Or.inl ⟨9, (((((o_r1_9).mono hn1).mono hn2).mono hm4).mono hn7), rfl⟩) h ?_
    rintro _ μ9 ⟨v9, rfl, h⟩ hn9
    show G Γ m_Pl_readStep (d + 1) (0, 0) Q 44 [.ref r0, .ref r1, .int x2] [.int v9, .int x2, .ref a8] μ9
    obtain ⟨is10, h⟩ := h
    refine run_ok (pc' := 45) [(.iastore, 0, 0, 0)] _ _ _ _ (by decide +kernel) ?_
    show _ ∧ (_)
    refine ⟨is10, ?_⟩
    show G Γ m_Pl_readStep (d + 1) (0, 0) Q 45 [.ref r0, .ref r1, .int x2] [] (sI μ9 a8 x2.toNatClampNeg v9)
    obtain ⟨μ11, em11⟩ : ∃ m : XM, m = sI μ9 a8 x2.toNatClampNeg v9 := ⟨_, rfl⟩
    replace h := h μ11 em11
    have hm11 : xN μ9 ≤ xN μ11 := by rw [em11]; exact Nat.le_refl _
    rw [← em11]
    obtain ⟨a12, ea12, h⟩ := h
    obtain ⟨is13, h⟩ := h
    refine run_ok (pc' := 52) [(.aload_n 0, 0, 0, 0), (.getfield 18, 7, 2, 2), (.iload_n 2, 0, 0, 0), (.iconst (-1), 0, 0, 0), (.iastore, 0, 0, 0)] _ _ _ _ (by decide +kernel) ?_
    show _ ∧ (∃ _, _ ∧ (_ ∧ (_)))
    refine ⟨(((((((o_r0_7).mono hn1).mono hn2).mono hm4).mono hn7).mono hn9).mono hm11), a12, ea12, is13, ?_⟩
    show G Γ m_Pl_readStep (d + 1) (0, 0) Q 52 [.ref r0, .ref r1, .int x2] [] (sI μ11 a12 x2.toNatClampNeg (w (-1)))
    obtain ⟨μ14, em14⟩ : ∃ m : XM, m = sI μ11 a12 x2.toNatClampNeg (w (-1)) := ⟨_, rfl⟩
    replace h := h μ14 em14
    have hm14 : xN μ11 ≤ xN μ14 := by rw [em14]; exact Nat.le_refl _
    rw [← em14]
    obtain ⟨a15, ea15, h⟩ := h
    obtain ⟨is16, h⟩ := h
    refine run_ok (pc' := 59) [(.aload_n 0, 0, 0, 0), (.getfield 21, 7, 3, 2), (.iload_n 2, 0, 0, 0), (.iconst (-1), 0, 0, 0), (.iastore, 0, 0, 0)] _ _ _ _ (by decide +kernel) ?_
    show _ ∧ (∃ _, _ ∧ (_ ∧ (_)))
    refine ⟨((((((((o_r0_7).mono hn1).mono hn2).mono hm4).mono hn7).mono hn9).mono hm11).mono hm14), a15, ea15, is16, ?_⟩
    show G Γ m_Pl_readStep (d + 1) (0, 0) Q 59 [.ref r0, .ref r1, .int x2] [] (sI μ14 a15 x2.toNatClampNeg (w (-1)))
    obtain ⟨μ17, em17⟩ : ∃ m : XM, m = sI μ14 a15 x2.toNatClampNeg (w (-1)) := ⟨_, rfl⟩
    replace h := h μ17 em17
    have hm17 : xN μ14 ≤ xN μ17 := by rw [em17]; exact Nat.le_refl _
    rw [← em17]
    obtain ⟨ea18, h⟩ := h
    obtain ⟨ib19, h⟩ := h
    refine run_ok (pc' := 66) [(.aload_n 0, 0, 0, 0), (.getfield 15, 7, 1, 2), (.iload_n 2, 0, 0, 0), (.iaload, 0, 0, 0), (.iconst (-1), 0, 0, 0)] _ _ _ _ (by decide +kernel) ?_
    show _ ∧ (∃ _, _ ∧ (_ ∧ (_)))
    refine ⟨(((((((((o_r0_7).mono hn1).mono hn2).mono hm4).mono hn7).mono hn9).mono hm11).mono hm14).mono hm17), a8, ea18, ib19, ?_⟩
    show G Γ m_Pl_readStep (d + 1) (0, 0) Q 66 [.ref r0, .ref r1, .int x2] [.int (w (-1)), .int (xI μ17 a8 x2.toNatClampNeg)] μ17
    refine g_icmp_ne (pc' := 71) (off := 5) (by decide) (by decide +kernel) (fun hc => ?_) (fun hc => ?_)
    · replace h := h.2 hc
      show G Γ m_Pl_readStep (d + 1) (0, 0) Q 71 [.ref r0, .ref r1, .int x2] [] μ17
      obtain ⟨ea20, h⟩ := h
      obtain ⟨ib21, h⟩ := h
      refine run_ok (pc' := 78) [(.aload_n 0, 0, 0, 0), (.getfield 9, 7, 0, 2), (.iload_n 2, 0, 0, 0), (.iaload, 0, 0, 0), (.iconst 4, 0, 0, 0)] _ _ _ _ (by decide +kernel) ?_
      show _ ∧ (∃ _, _ ∧ (_ ∧ (_)))
      refine ⟨(((((((((o_r0_7).mono hn1).mono hn2).mono hm4).mono hn7).mono hn9).mono hm11).mono hm14).mono hm17), r0_0, ea20, ib21, ?_⟩
      show G Γ m_Pl_readStep (d + 1) (0, 0) Q 78 [.ref r0, .ref r1, .int x2] [.int (w 4), .int (xI μ17 r0_0 x2.toNatClampNeg)] μ17
      refine g_icmp_ne (pc' := 88) (off := 10) (by decide) (by decide +kernel) (fun hc => ?_) (fun hc => ?_)
      · replace h := h.2 hc
        show G Γ m_Pl_readStep (d + 1) (0, 0) Q 88 [.ref r0, .ref r1, .int x2] [] μ17
        obtain ⟨ib22, h⟩ := h
        refine run_ok (pc' := 94) [(.aload_n 0, 0, 0, 0), (.getfield 9, 7, 0, 2), (.iload_n 2, 0, 0, 0), (.iaload, 0, 0, 0)] _ _ _ _ (by decide +kernel) ?_
        show _ ∧ (∃ _, _ ∧ (_ ∧ (_)))
        refine ⟨(((((((((o_r0_7).mono hn1).mono hn2).mono hm4).mono hn7).mono hn9).mono hm11).mono hm14).mono hm17), r0_0, ea20, ib22, ?_⟩
        show G Γ m_Pl_readStep (d + 1) (0, 0) Q 94 [.ref r0, .ref r1, .int x2] [.int (xI μ17 r0_0 x2.toNatClampNeg)] μ17
        refine g_ifz_ne (pc' := 106) (off := 12) (by decide) (by decide +kernel) (fun hc => ?_) (fun hc => ?_)
        · replace h := h.2 hc
          show G Γ m_Pl_readStep (d + 1) (0, 0) Q 106 [.ref r0, .ref r1, .int x2] [] μ17
          refine run_ok (pc' := 111) [(.iconst 1, 0, 0, 0), (.goto 4, 0, 0, 0)] _ _ _ _ (by decide +kernel) ?_
          show G Γ m_Pl_readStep (d + 1) (0, 0) Q 111 [.ref r0, .ref r1, .int x2] [.int (w 1)] μ17
          exact g_retz (by decide +kernel) rfl (Or.inr rfl) h
        · replace h := h.1 hc
          show G Γ m_Pl_readStep (d + 1) (0, 0) Q 97 [.ref r0, .ref r1, .int x2] [] μ17
          refine run_ok (pc' := 100) [(.aload_n 0, 0, 0, 0), (.aload_n 1, 0, 0, 0), (.iload_n 2, 0, 0, 0)] _ _ _ _ (by decide +kernel) ?_
          show G Γ m_Pl_readStep (d + 1) (0, 0) Q 100 [.ref r0, .ref r1, .int x2] [.int x2, .ref r1, .ref r0] μ17
          refine g_invV (M' := m_Pl_readRestOfPut) (b1 := 0) (b2 := 0) (As := [.ref r1, .int x2]) (a := r0) (st := []) lk_7_66 (by decide +kernel) rfl (dk_Pl_readRestOfPut d) (Nat.le_of_ble_eq_true rfl) (Or.inl ⟨7, (((((((((o_r0_7).mono hn1).mono hn2).mono hm4).mono hn7).mono hn9).mono hm11).mono hm14).mono hm17), rfl⟩) h ?_
          rintro _ μ23 ⟨v23, rfl, h⟩ hn23
          show G Γ m_Pl_readStep (d + 1) (0, 0) Q 103 [.ref r0, .ref r1, .int x2] [.int v23] μ23
          refine g_ifz_eq (pc' := 110) (off := 7) (by decide) (by decide +kernel) (fun hc => ?_) (fun hc => ?_)
          · replace h := h.1 hc
            show G Γ m_Pl_readStep (d + 1) (0, 0) Q 110 [.ref r0, .ref r1, .int x2] [] μ23
            refine run_ok (pc' := 111) [(.iconst 0, 0, 0, 0)] _ _ _ _ (by decide +kernel) ?_
            show G Γ m_Pl_readStep (d + 1) (0, 0) Q 111 [.ref r0, .ref r1, .int x2] [.int (w 0)] μ23
            exact g_retz (by decide +kernel) rfl (Or.inl rfl) h
          · replace h := h.2 hc
            show G Γ m_Pl_readStep (d + 1) (0, 0) Q 106 [.ref r0, .ref r1, .int x2] [] μ23
            refine run_ok (pc' := 111) [(.iconst 1, 0, 0, 0), (.goto 4, 0, 0, 0)] _ _ _ _ (by decide +kernel) ?_
            show G Γ m_Pl_readStep (d + 1) (0, 0) Q 111 [.ref r0, .ref r1, .int x2] [.int (w 1)] μ23
            exact g_retz (by decide +kernel) rfl (Or.inr rfl) h
      · replace h := h.1 hc
        show G Γ m_Pl_readStep (d + 1) (0, 0) Q 81 [.ref r0, .ref r1, .int x2] [] μ17
        refine run_ok (pc' := 84) [(.aload_n 0, 0, 0, 0), (.aload_n 1, 0, 0, 0), (.iload_n 2, 0, 0, 0)] _ _ _ _ (by decide +kernel) ?_
        show G Γ m_Pl_readStep (d + 1) (0, 0) Q 84 [.ref r0, .ref r1, .int x2] [.int x2, .ref r1, .ref r0] μ17
        refine g_invV (M' := m_Pl_readSecondOfHours) (b1 := 0) (b2 := 0) (As := [.ref r1, .int x2]) (a := r0) (st := []) lk_7_63 (by decide +kernel) rfl (dk_Pl_readSecondOfHours d) (Nat.le_of_ble_eq_true rfl) (Or.inl ⟨7, (((((((((o_r0_7).mono hn1).mono hn2).mono hm4).mono hn7).mono hn9).mono hm11).mono hm14).mono hm17), rfl⟩) h ?_
        rintro _ μ24 ⟨v24, rfl, h⟩ hn24
        show G Γ m_Pl_readStep (d + 1) (0, 0) Q 87 [.ref r0, .ref r1, .int x2] [.int v24] μ24
        exact g_retz (by decide +kernel) rfl h.1 h.2
    · replace h := h.1 hc
      show G Γ m_Pl_readStep (d + 1) (0, 0) Q 69 [.ref r0, .ref r1, .int x2] [] μ17
      refine run_ok (pc' := 70) [(.iconst 0, 0, 0, 0)] _ _ _ _ (by decide +kernel) ?_
      show G Γ m_Pl_readStep (d + 1) (0, 0) Q 70 [.ref r0, .ref r1, .int x2] [.int (w 0)] μ17
      exact g_retz (by decide +kernel) rfl (Or.inl rfl) h
  · replace h := h.1 hc
    show G Γ m_Pl_readStep (d + 1) (0, 0) Q 26 [.ref r0, .ref r1, .int x2] [] μ4
    refine run_ok (pc' := 27) [(.aload_n 1, 0, 0, 0)] _ _ _ _ (by decide +kernel) ?_
    show G Γ m_Pl_readStep (d + 1) (0, 0) Q 27 [.ref r0, .ref r1, .int x2] [.ref r1] μ4
    refine g_invV (M' := m_Ta_refuse) (b1 := 0) (b2 := 0) (As := []) (a := r1) (st := []) lk_7_45 (by decide +kernel) rfl (dk_Ta_refuse d) (Nat.le_of_ble_eq_true rfl) (Or.inl ⟨9, ((((o_r1_9).mono hn1).mono hn2).mono hm4), rfl⟩) h ?_
    rintro _ μ25 ⟨v25, rfl, h⟩ hn25
    show G Γ m_Pl_readStep (d + 1) (0, 0) Q 30 [.ref r0, .ref r1, .int x2] [.int v25] μ25
    exact g_retz (by decide +kernel) rfl h.1 h.2
/-! FrostBox$Plan readSecondOfHours(LFrostBox$Tape;I)Z -/
set_option maxRecDepth 100000 in
theorem B_Pl_readSecondOfHours_0 {Γ : XG} {d : Nat} {Q : Option Value → XM → Prop} {r0 r1 : Nat} {x2 : Int32} {μ : XM} (o_r1_9 : ob μ r1 9) (o_r0_7 : ob μ r0 7) (h : Call Γ m_Ta_digit d [.ref r1] μ (KI (fun v1 μ1 => ∃ a2, xR μ1 r0 1 = some a2 ∧ inb μ1 0 a2 x2 ∧ inS μ1 0 a2 x2 ∧ ∀ μ5, μ5 = sI μ1 a2 x2.toNatClampNeg (((xI μ1 a2 x2.toNatClampNeg) * (w 10)) + v1) → ((v1 = w (-1) → Q (some (.int (w 0))) μ5) ∧ (¬ v1 = w (-1) → Q (some (.int (w 1))) μ5))))) : G Γ m_Pl_readSecondOfHours (d + 1) (0, 0) Q 0 [.ref r0, .ref r1, .int x2] [] μ := by
  refine run_ok (pc' := 1) [(.aload_n 1, 0, 0, 0)] _ _ _ _ (by decide +kernel) ?_
  show G Γ m_Pl_readSecondOfHours (d + 1) (0, 0) Q 1 [.ref r0, .ref r1, .int x2] [.ref r1] μ
  refine g_invV (M' := m_Ta_digit) (b1 := 0) (b2 := 0) (As := []) (a := r1) (st := []) lk_7_60 (by decide +kernel) rfl (dk_Ta_digit d) (Nat.le_of_ble_eq_true rfl) (Or.inl ⟨9, o_r1_9, rfl⟩) h ?_
  rintro _ μ1 ⟨v1, rfl, h⟩ hn1
  show G Γ m_Pl_readSecondOfHours (d + 1) (0, 0) Q 4 [.ref r0, .ref r1, .int x2] [.int v1] μ1
  obtain ⟨a2, ea2, h⟩ := h
  obtain ⟨ib3, h⟩ := h
  obtain ⟨is4, h⟩ := h
  refine run_ok (pc' := 22) [(.istore_n 3, 0, 0, 0), (.aload_n 0, 0, 0, 0), (.getfield 15, 7, 1, 2), (.iload_n 2, 0, 0, 0), (.aload_n 0, 0, 0, 0), (.getfield 15, 7, 1, 2), (.iload_n 2, 0, 0, 0), (.iaload, 0, 0, 0), (.bipush 10, 0, 0, 0), (.imul, 0, 0, 0), (.iload_n 3, 0, 0, 0), (.iadd, 0, 0, 0), (.iastore, 0, 0, 0)] _ _ _ _ (by decide +kernel) ?_
  show _ ∧ (∃ _, _ ∧ (_ ∧ (∃ _, _ ∧ (_ ∧ (_ ∧ (_))))))
  refine ⟨((o_r0_7).mono hn1), a2, ea2, ((o_r0_7).mono hn1), a2, ea2, ib3, is4, ?_⟩
  show G Γ m_Pl_readSecondOfHours (d + 1) (0, 0) Q 22 [.ref r0, .ref r1, .int x2, .int v1] [] (sI μ1 a2 x2.toNatClampNeg (((xI μ1 a2 x2.toNatClampNeg) * (w 10)) + v1))
  obtain ⟨μ5, em5⟩ : ∃ m : XM, m = sI μ1 a2 x2.toNatClampNeg (((xI μ1 a2 x2.toNatClampNeg) * (w 10)) + v1) := ⟨_, rfl⟩
  replace h := h μ5 em5
  have hm5 : xN μ1 ≤ xN μ5 := by rw [em5]; exact Nat.le_refl _
  rw [← em5]
  refine run_ok (pc' := 24) [(.iload_n 3, 0, 0, 0), (.iconst (-1), 0, 0, 0)] _ _ _ _ (by decide +kernel) ?_
  show G Γ m_Pl_readSecondOfHours (d + 1) (0, 0) Q 24 [.ref r0, .ref r1, .int x2, .int v1] [.int (w (-1)), .int v1] μ5
  refine g_icmp_eq (pc' := 31) (off := 7) (by decide) (by decide +kernel) (fun hc => ?_) (fun hc => ?_)
  · replace h := h.1 hc
    show G Γ m_Pl_readSecondOfHours (d + 1) (0, 0) Q 31 [.ref r0, .ref r1, .int x2, .int v1] [] μ5
    refine run_ok (pc' := 32) [(.iconst 0, 0, 0, 0)] _ _ _ _ (by decide +kernel) ?_
    show G Γ m_Pl_readSecondOfHours (d + 1) (0, 0) Q 32 [.ref r0, .ref r1, .int x2, .int v1] [.int (w 0)] μ5
    exact g_retz (by decide +kernel) rfl (Or.inl rfl) h
  · replace h := h.2 hc
    show G Γ m_Pl_readSecondOfHours (d + 1) (0, 0) Q 27 [.ref r0, .ref r1, .int x2, .int v1] [] μ5
    refine run_ok (pc' := 32) [(.iconst 1, 0, 0, 0), (.goto 4, 0, 0, 0)] _ _ _ _ (by decide +kernel) ?_
    show G Γ m_Pl_readSecondOfHours (d + 1) (0, 0) Q 32 [.ref r0, .ref r1, .int x2, .int v1] [.int (w 1)] μ5
    exact g_retz (by decide +kernel) rfl (Or.inr rfl) h
/-! FrostBox$Plan readRestOfPut(LFrostBox$Tape;I)Z -/
set_option maxRecDepth 100000 in
theorem lk_7_69 : LkV 7 69 m_Ta_refuseLast 0 := ⟨lc_Ta_refuseLast, lwG_in (List.mem_of_getElem? (i := 639) rfl) rfl, lwG_in (List.mem_of_getElem? (i := 529) rfl) rfl, lwG_in (List.mem_of_getElem? (i := 530) rfl) rfl⟩
set_option maxRecDepth 100000 in
theorem B_Pl_readRestOfPut_0 {Γ : XG} {d : Nat} {Q : Option Value → XM → Prop} {r0 r1 r0_2 : Nat} {x2 : Int32} {μ : XM} (o_r0_7 : ob μ r0 7) (e_r0_2 : xR μ r0 2 = some r0_2) (o_r1_9 : ob μ r1 9) (h : Call Γ m_Ta_digit d [.ref r1] μ (KI (fun v1 μ1 => inS μ1 0 r0_2 x2 ∧ ∀ μ3, μ3 = sI μ1 r0_2 x2.toNatClampNeg v1 → xR μ3 r0 2 = some r0_2 ∧ inb μ3 0 r0_2 x2 ∧ ((xI μ3 r0_2 x2.toNatClampNeg = w (-1) → Q (some (.int (w 0))) μ3) ∧ (¬ xI μ3 r0_2 x2.toNatClampNeg = w (-1) → ∃ a6, xR μ3 r0 3 = some a6 ∧ Call Γ m_Ta_digit d [.ref r1] μ3 (KI (fun v7 μ7 => inS μ7 0 a6 x2 ∧ ∀ μ9, μ9 = sI μ7 a6 x2.toNatClampNeg v7 → xR μ9 r0 3 = some a6 ∧ inb μ9 0 a6 x2 ∧ ((xI μ9 a6 x2.toNatClampNeg = w (-1) → Q (some (.int (w 0))) μ9) ∧ (¬ xI μ9 a6 x2.toNatClampNeg = w (-1) → inb μ9 0 a6 x2 ∧ ((w 1 < xI μ9 a6 x2.toNatClampNeg → Call Γ m_Ta_refuseLast d [.ref r1] μ9 (KI (fun v13 μ13 => ((v13 = w 0 → Q (some (.int (w 0))) μ13) ∧ (¬ v13 = w 0 → Q (some (.int (w 1))) μ13))))) ∧ (¬ w 1 < xI μ9 a6 x2.toNatClampNeg → Q (some (.int (w 1))) μ9))))))))))) : G Γ m_Pl_readRestOfPut (d + 1) (0, 0) Q 0 [.ref r0, .ref r1, .int x2] [] μ := by
  refine run_ok (pc' := 6) [(.aload_n 0, 0, 0, 0), (.getfield 18, 7, 2, 2), (.iload_n 2, 0, 0, 0), (.aload_n 1, 0, 0, 0)] _ _ _ _ (by decide +kernel) ?_
  show _ ∧ (∃ _, _ ∧ (_))
  refine ⟨o_r0_7, r0_2, e_r0_2, ?_⟩
  show G Γ m_Pl_readRestOfPut (d + 1) (0, 0) Q 6 [.ref r0, .ref r1, .int x2] [.ref r1, .int x2, .ref r0_2] μ
  refine g_invV (M' := m_Ta_digit) (b1 := 0) (b2 := 0) (As := []) (a := r1) (st := [.int x2, .ref r0_2]) lk_7_60 (by decide +kernel) rfl (dk_Ta_digit d) (Nat.le_of_ble_eq_true rfl) (Or.inl ⟨9, o_r1_9, rfl⟩) h ?_
  rintro _ μ1 ⟨v1, rfl, h⟩ hn1
  show G Γ m_Pl_readRestOfPut (d + 1) (0, 0) Q 9 [.ref r0, .ref r1, .int x2] [.int v1, .int x2, .ref r0_2] μ1
  obtain ⟨is2, h⟩ := h
  refine run_ok (pc' := 10) [(.iastore, 0, 0, 0)] _ _ _ _ (by decide +kernel) ?_
  show _ ∧ (_)
  refine ⟨is2, ?_⟩
  show G Γ m_Pl_readRestOfPut (d + 1) (0, 0) Q 10 [.ref r0, .ref r1, .int x2] [] (sI μ1 r0_2 x2.toNatClampNeg v1)
  obtain ⟨μ3, em3⟩ : ∃ m : XM, m = sI μ1 r0_2 x2.toNatClampNeg v1 := ⟨_, rfl⟩
  replace h := h μ3 em3
  have hm3 : xN μ1 ≤ xN μ3 := by rw [em3]; exact Nat.le_refl _
  rw [← em3]
  obtain ⟨ea4, h⟩ := h
  obtain ⟨ib5, h⟩ := h
  refine run_ok (pc' := 17) [(.aload_n 0, 0, 0, 0), (.getfield 18, 7, 2, 2), (.iload_n 2, 0, 0, 0), (.iaload, 0, 0, 0), (.iconst (-1), 0, 0, 0)] _ _ _ _ (by decide +kernel) ?_
  show _ ∧ (∃ _, _ ∧ (_ ∧ (_)))
  refine ⟨(((o_r0_7).mono hn1).mono hm3), r0_2, ea4, ib5, ?_⟩
  show G Γ m_Pl_readRestOfPut (d + 1) (0, 0) Q 17 [.ref r0, .ref r1, .int x2] [.int (w (-1)), .int (xI μ3 r0_2 x2.toNatClampNeg)] μ3
  refine g_icmp_ne (pc' := 22) (off := 5) (by decide) (by decide +kernel) (fun hc => ?_) (fun hc => ?_)
  · replace h := h.2 hc
    show G Γ m_Pl_readRestOfPut (d + 1) (0, 0) Q 22 [.ref r0, .ref r1, .int x2] [] μ3
    obtain ⟨a6, ea6, h⟩ := h
    refine run_ok (pc' := 28) [(.aload_n 0, 0, 0, 0), (.getfield 21, 7, 3, 2), (.iload_n 2, 0, 0, 0), (.aload_n 1, 0, 0, 0)] _ _ _ _ (by decide +kernel) ?_
    show _ ∧ (∃ _, _ ∧ (_))
    refine ⟨(((o_r0_7).mono hn1).mono hm3), a6, ea6, ?_⟩
    show G Γ m_Pl_readRestOfPut (d + 1) (0, 0) Q 28 [.ref r0, .ref r1, .int x2] [.ref r1, .int x2, .ref a6] μ3
    refine g_invV (M' := m_Ta_digit) (b1 := 0) (b2 := 0) (As := []) (a := r1) (st := [.int x2, .ref a6]) lk_7_60 (by decide +kernel) rfl (dk_Ta_digit d) (Nat.le_of_ble_eq_true rfl) (Or.inl ⟨9, (((o_r1_9).mono hn1).mono hm3), rfl⟩) h ?_
    rintro _ μ7 ⟨v7, rfl, h⟩ hn7
    show G Γ m_Pl_readRestOfPut (d + 1) (0, 0) Q 31 [.ref r0, .ref r1, .int x2] [.int v7, .int x2, .ref a6] μ7
    obtain ⟨is8, h⟩ := h
    refine run_ok (pc' := 32) [(.iastore, 0, 0, 0)] _ _ _ _ (by decide +kernel) ?_
    show _ ∧ (_)
    refine ⟨is8, ?_⟩
    show G Γ m_Pl_readRestOfPut (d + 1) (0, 0) Q 32 [.ref r0, .ref r1, .int x2] [] (sI μ7 a6 x2.toNatClampNeg v7)
    obtain ⟨μ9, em9⟩ : ∃ m : XM, m = sI μ7 a6 x2.toNatClampNeg v7 := ⟨_, rfl⟩
    replace h := h μ9 em9
    have hm9 : xN μ7 ≤ xN μ9 := by rw [em9]; exact Nat.le_refl _
    rw [← em9]
    obtain ⟨ea10, h⟩ := h
    obtain ⟨ib11, h⟩ := h
    refine run_ok (pc' := 39) [(.aload_n 0, 0, 0, 0), (.getfield 21, 7, 3, 2), (.iload_n 2, 0, 0, 0), (.iaload, 0, 0, 0), (.iconst (-1), 0, 0, 0)] _ _ _ _ (by decide +kernel) ?_
    show _ ∧ (∃ _, _ ∧ (_ ∧ (_)))
    refine ⟨(((((o_r0_7).mono hn1).mono hm3).mono hn7).mono hm9), a6, ea10, ib11, ?_⟩
    show G Γ m_Pl_readRestOfPut (d + 1) (0, 0) Q 39 [.ref r0, .ref r1, .int x2] [.int (w (-1)), .int (xI μ9 a6 x2.toNatClampNeg)] μ9
    refine g_icmp_ne (pc' := 44) (off := 5) (by decide) (by decide +kernel) (fun hc => ?_) (fun hc => ?_)
    · replace h := h.2 hc
      show G Γ m_Pl_readRestOfPut (d + 1) (0, 0) Q 44 [.ref r0, .ref r1, .int x2] [] μ9
      obtain ⟨ib12, h⟩ := h
      refine run_ok (pc' := 51) [(.aload_n 0, 0, 0, 0), (.getfield 21, 7, 3, 2), (.iload_n 2, 0, 0, 0), (.iaload, 0, 0, 0), (.iconst 1, 0, 0, 0)] _ _ _ _ (by decide +kernel) ?_
      show _ ∧ (∃ _, _ ∧ (_ ∧ (_)))
      refine ⟨(((((o_r0_7).mono hn1).mono hm3).mono hn7).mono hm9), a6, ea10, ib12, ?_⟩
      show G Γ m_Pl_readRestOfPut (d + 1) (0, 0) Q 51 [.ref r0, .ref r1, .int x2] [.int (w 1), .int (xI μ9 a6 x2.toNatClampNeg)] μ9
      refine g_icmp_le (pc' := 61) (off := 10) (by decide) (by decide +kernel) (fun hc => ?_) (fun hc => ?_)
      · replace h := h.2 hc
        show G Γ m_Pl_readRestOfPut (d + 1) (0, 0) Q 61 [.ref r0, .ref r1, .int x2] [] μ9
        refine run_ok (pc' := 66) [(.iconst 1, 0, 0, 0), (.goto 4, 0, 0, 0)] _ _ _ _ (by decide +kernel) ?_
        show G Γ m_Pl_readRestOfPut (d + 1) (0, 0) Q 66 [.ref r0, .ref r1, .int x2] [.int (w 1)] μ9
        exact g_retz (by decide +kernel) rfl (Or.inr rfl) h
      · replace h := h.1 hc
        show G Γ m_Pl_readRestOfPut (d + 1) (0, 0) Q 54 [.ref r0, .ref r1, .int x2] [] μ9
        refine run_ok (pc' := 55) [(.aload_n 1, 0, 0, 0)] _ _ _ _ (by decide +kernel) ?_
        show G Γ m_Pl_readRestOfPut (d + 1) (0, 0) Q 55 [.ref r0, .ref r1, .int x2] [.ref r1] μ9
        refine g_invV (M' := m_Ta_refuseLast) (b1 := 0) (b2 := 0) (As := []) (a := r1) (st := []) lk_7_69 (by decide +kernel) rfl (dk_Ta_refuseLast d) (Nat.le_of_ble_eq_true rfl) (Or.inl ⟨9, (((((o_r1_9).mono hn1).mono hm3).mono hn7).mono hm9), rfl⟩) h ?_
        rintro _ μ13 ⟨v13, rfl, h⟩ hn13
        show G Γ m_Pl_readRestOfPut (d + 1) (0, 0) Q 58 [.ref r0, .ref r1, .int x2] [.int v13] μ13
        refine g_ifz_eq (pc' := 65) (off := 7) (by decide) (by decide +kernel) (fun hc => ?_) (fun hc => ?_)
        · replace h := h.1 hc
          show G Γ m_Pl_readRestOfPut (d + 1) (0, 0) Q 65 [.ref r0, .ref r1, .int x2] [] μ13
          refine run_ok (pc' := 66) [(.iconst 0, 0, 0, 0)] _ _ _ _ (by decide +kernel) ?_
          show G Γ m_Pl_readRestOfPut (d + 1) (0, 0) Q 66 [.ref r0, .ref r1, .int x2] [.int (w 0)] μ13
          exact g_retz (by decide +kernel) rfl (Or.inl rfl) h
        · replace h := h.2 hc
          show G Γ m_Pl_readRestOfPut (d + 1) (0, 0) Q 61 [.ref r0, .ref r1, .int x2] [] μ13
          refine run_ok (pc' := 66) [(.iconst 1, 0, 0, 0), (.goto 4, 0, 0, 0)] _ _ _ _ (by decide +kernel) ?_
          show G Γ m_Pl_readRestOfPut (d + 1) (0, 0) Q 66 [.ref r0, .ref r1, .int x2] [.int (w 1)] μ13
          exact g_retz (by decide +kernel) rfl (Or.inr rfl) h
    · replace h := h.1 hc
      show G Γ m_Pl_readRestOfPut (d + 1) (0, 0) Q 42 [.ref r0, .ref r1, .int x2] [] μ9
      refine run_ok (pc' := 43) [(.iconst 0, 0, 0, 0)] _ _ _ _ (by decide +kernel) ?_
      show G Γ m_Pl_readRestOfPut (d + 1) (0, 0) Q 43 [.ref r0, .ref r1, .int x2] [.int (w 0)] μ9
      exact g_retz (by decide +kernel) rfl (Or.inl rfl) h
  · replace h := h.1 hc
    show G Γ m_Pl_readRestOfPut (d + 1) (0, 0) Q 20 [.ref r0, .ref r1, .int x2] [] μ3
    refine run_ok (pc' := 21) [(.iconst 0, 0, 0, 0)] _ _ _ _ (by decide +kernel) ?_
    show G Γ m_Pl_readRestOfPut (d + 1) (0, 0) Q 21 [.ref r0, .ref r1, .int x2] [.int (w 0)] μ3
    exact g_retz (by decide +kernel) rfl (Or.inl rfl) h
/-! FrostBox$Plan told(II)I -/
set_option maxRecDepth 100000 in
theorem B_Pl_told_0 {Γ : XG} {d : Nat} {Q : Option Value → XM → Prop} {r0 r0_3 r0_2 r0_1 r0_0 : Nat} {x1 x2 : Int32} {μ : XM} (o_r0_7 : ob μ r0 7) (e_r0_3 : xR μ r0 3 = some r0_3) (e_r0_2 : xR μ r0 2 = some r0_2) (e_r0_1 : xR μ r0 1 = some r0_1) (e_r0_0 : xR μ r0 0 = some r0_0) (h : ((x2 = w 0 → inb μ 0 r0_0 x1 ∧ Q (some (.int (xI μ r0_0 x1.toNatClampNeg))) μ) ∧ (¬ x2 = w 0 → ((x2 = w 1 → inb μ 0 r0_1 x1 ∧ Q (some (.int (xI μ r0_1 x1.toNatClampNeg))) μ) ∧ (¬ x2 = w 1 → ((x2 = w 2 → inb μ 0 r0_2 x1 ∧ Q (some (.int (xI μ r0_2 x1.toNatClampNeg))) μ) ∧ (¬ x2 = w 2 → inb μ 0 r0_3 x1 ∧ Q (some (.int (xI μ r0_3 x1.toNatClampNeg))) μ))))))) : G Γ m_Pl_told (d + 1) (0, 0) Q 0 [.ref r0, .int x1, .int x2] [] μ := by
  refine run_ok (pc' := 1) [(.iload_n 2, 0, 0, 0)] _ _ _ _ (by decide +kernel) ?_
  show G Γ m_Pl_told (d + 1) (0, 0) Q 1 [.ref r0, .int x1, .int x2] [.int x2] μ
  refine g_ifz_ne (pc' := 11) (off := 10) (by decide) (by decide +kernel) (fun hc => ?_) (fun hc => ?_)
  · replace h := h.2 hc
    show G Γ m_Pl_told (d + 1) (0, 0) Q 11 [.ref r0, .int x1, .int x2] [] μ
    refine run_ok (pc' := 13) [(.iload_n 2, 0, 0, 0), (.iconst 1, 0, 0, 0)] _ _ _ _ (by decide +kernel) ?_
    show G Γ m_Pl_told (d + 1) (0, 0) Q 13 [.ref r0, .int x1, .int x2] [.int (w 1), .int x2] μ
    refine g_icmp_ne (pc' := 23) (off := 10) (by decide) (by decide +kernel) (fun hc => ?_) (fun hc => ?_)
    · replace h := h.2 hc
      show G Γ m_Pl_told (d + 1) (0, 0) Q 23 [.ref r0, .int x1, .int x2] [] μ
      refine run_ok (pc' := 25) [(.iload_n 2, 0, 0, 0), (.iconst 2, 0, 0, 0)] _ _ _ _ (by decide +kernel) ?_
      show G Γ m_Pl_told (d + 1) (0, 0) Q 25 [.ref r0, .int x1, .int x2] [.int (w 2), .int x2] μ
      refine g_icmp_ne (pc' := 37) (off := 12) (by decide) (by decide +kernel) (fun hc => ?_) (fun hc => ?_)
      · replace h := h.2 hc
        show G Γ m_Pl_told (d + 1) (0, 0) Q 37 [.ref r0, .int x1, .int x2] [] μ
        obtain ⟨ib1, h⟩ := h
        refine run_ok (pc' := 43) [(.aload_n 0, 0, 0, 0), (.getfield 21, 7, 3, 2), (.iload_n 1, 0, 0, 0), (.iaload, 0, 0, 0)] _ _ _ _ (by decide +kernel) ?_
        show _ ∧ (∃ _, _ ∧ (_ ∧ (_)))
        refine ⟨o_r0_7, r0_3, e_r0_3, ib1, ?_⟩
        show G Γ m_Pl_told (d + 1) (0, 0) Q 43 [.ref r0, .int x1, .int x2] [.int (xI μ r0_3 x1.toNatClampNeg)] μ
        exact g_reti (by decide +kernel) rfl h
      · replace h := h.1 hc
        show G Γ m_Pl_told (d + 1) (0, 0) Q 28 [.ref r0, .int x1, .int x2] [] μ
        obtain ⟨ib2, h⟩ := h
        refine run_ok (pc' := 43) [(.aload_n 0, 0, 0, 0), (.getfield 18, 7, 2, 2), (.iload_n 1, 0, 0, 0), (.iaload, 0, 0, 0), (.goto 9, 0, 0, 0)] _ _ _ _ (by decide +kernel) ?_
        show _ ∧ (∃ _, _ ∧ (_ ∧ (_)))
        refine ⟨o_r0_7, r0_2, e_r0_2, ib2, ?_⟩
        show G Γ m_Pl_told (d + 1) (0, 0) Q 43 [.ref r0, .int x1, .int x2] [.int (xI μ r0_2 x1.toNatClampNeg)] μ
        exact g_reti (by decide +kernel) rfl h
    · replace h := h.1 hc
      show G Γ m_Pl_told (d + 1) (0, 0) Q 16 [.ref r0, .int x1, .int x2] [] μ
      obtain ⟨ib3, h⟩ := h
      refine run_ok (pc' := 22) [(.aload_n 0, 0, 0, 0), (.getfield 15, 7, 1, 2), (.iload_n 1, 0, 0, 0), (.iaload, 0, 0, 0)] _ _ _ _ (by decide +kernel) ?_
      show _ ∧ (∃ _, _ ∧ (_ ∧ (_)))
      refine ⟨o_r0_7, r0_1, e_r0_1, ib3, ?_⟩
      show G Γ m_Pl_told (d + 1) (0, 0) Q 22 [.ref r0, .int x1, .int x2] [.int (xI μ r0_1 x1.toNatClampNeg)] μ
      exact g_reti (by decide +kernel) rfl h
  · replace h := h.1 hc
    show G Γ m_Pl_told (d + 1) (0, 0) Q 4 [.ref r0, .int x1, .int x2] [] μ
    obtain ⟨ib4, h⟩ := h
    refine run_ok (pc' := 10) [(.aload_n 0, 0, 0, 0), (.getfield 9, 7, 0, 2), (.iload_n 1, 0, 0, 0), (.iaload, 0, 0, 0)] _ _ _ _ (by decide +kernel) ?_
    show _ ∧ (∃ _, _ ∧ (_ ∧ (_)))
    refine ⟨o_r0_7, r0_0, e_r0_0, ib4, ?_⟩
    show G Γ m_Pl_told (d + 1) (0, 0) Q 10 [.ref r0, .int x1, .int x2] [.int (xI μ r0_0 x1.toNatClampNeg)] μ
    exact g_reti (by decide +kernel) rfl h
