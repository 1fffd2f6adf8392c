/-! FrostBoxModel remember()V -/
set_option maxRecDepth 100000 in
theorem B_MO_remember_0 {Γ : XG} {d : Nat} {Q : Option Value → XM → Prop} {r0 : Nat} {μ : XM} (o_r0_11 : ob μ r0 11) (h : ((xI μ r0 37 = w 40 → G Γ m_MO_remember (d + 1) (0, 0) Q 11 [.ref r0, .int (w 0)] [] μ) ∧ (¬ xI μ r0 37 = w 40 → G Γ m_MO_remember (d + 1) (0, 0) Q 52 [.ref r0, .int (w 0)] [] μ))) : G Γ m_MO_remember (d + 1) (0, 0) Q 0 [.ref r0] [] μ := by
  refine run_ok (pc' := 6) [(.aload_n 0, 0, 0, 0), (.getfield 316, 11, 37, 0), (.bipush 40, 0, 0, 0)] _ _ _ _ (by decide +kernel) ?_
  show _ ∧ (_)
  refine ⟨o_r0_11, ?_⟩
  show G Γ m_MO_remember (d + 1) (0, 0) Q 6 [.ref r0] [.int (w 40), .int (xI μ r0 37)] μ
  refine g_icmp_ne (pc' := 50) (off := 44) (by decide) (by decide +kernel) (fun hc => ?_) (fun hc => ?_)
  · replace h := h.2 hc
    show G Γ m_MO_remember (d + 1) (0, 0) Q 50 [.ref r0] [] μ
    refine run_ok (pc' := 52) [(.iconst 0, 0, 0, 0), (.istore_n 1, 0, 0, 0)] _ _ _ _ (by decide +kernel) ?_
    show G Γ m_MO_remember (d + 1) (0, 0) Q 52 [.ref r0, .int (w 0)] [] μ
    exact h
  · replace h := h.1 hc
    show G Γ m_MO_remember (d + 1) (0, 0) Q 9 [.ref r0] [] μ
    refine run_ok (pc' := 11) [(.iconst 0, 0, 0, 0), (.istore_n 1, 0, 0, 0)] _ _ _ _ (by decide +kernel) ?_
    show G Γ m_MO_remember (d + 1) (0, 0) Q 11 [.ref r0, .int (w 0)] [] μ
    exact h
set_option maxRecDepth 100000 in
theorem B_MO_remember_11 {Γ : XG} {d : Nat} {Q : Option Value → XM → Prop} {r0 r0_36 : Nat} {x1 : Int32} {μ : XM} (o_r0_11 : ob μ r0 11) (e_r0_36 : xR μ r0 36 = some r0_36) (h : ((x1 < w 11037 → inb μ 0 r0_36 (x1 + (w 283)) ∧ inS μ 0 r0_36 x1 ∧ ∀ μ4, μ4 = sI μ r0_36 x1.toNatClampNeg (xI μ r0_36 (x1 + (w 283)).toNatClampNeg) → G Γ m_MO_remember (d + 1) (0, 0) Q 11 [.ref r0, .int (x1 + w 1)] [] μ4) ∧ (¬ x1 < w 11037 → ∀ μ1, μ1 = sI μ r0 37 ((xI μ r0 37) - (w 1)) → G Γ m_MO_remember (d + 1) (0, 0) Q 52 [.ref r0, .int (w 0)] [] μ1))) : G Γ m_MO_remember (d + 1) (0, 0) Q 11 [.ref r0, .int x1] [] μ := by
  refine run_ok (pc' := 15) [(.iload_n 1, 0, 0, 0), (.sipush 11037, 0, 0, 0)] _ _ _ _ (by decide +kernel) ?_
  show G Γ m_MO_remember (d + 1) (0, 0) Q 15 [.ref r0, .int x1] [.int (w 11037), .int x1] μ
  refine g_icmp_ge (pc' := 40) (off := 25) (by decide) (by decide +kernel) (fun hc => ?_) (fun hc => ?_)
  · replace h := h.2 hc
    show G Γ m_MO_remember (d + 1) (0, 0) Q 40 [.ref r0, .int x1] [] μ
    refine run_ok (pc' := 50) [(.aload_n 0, 0, 0, 0), (.dup, 0, 0, 0), (.getfield 316, 11, 37, 0), (.iconst 1, 0, 0, 0), (.isub, 0, 0, 0), (.putfield 316, 11, 37, 0)] _ _ _ _ (by decide +kernel) ?_
    show _ ∧ (_ ∧ (_))
    refine ⟨o_r0_11, o_r0_11, ?_⟩
    show G Γ m_MO_remember (d + 1) (0, 0) Q 50 [.ref r0, .int x1] [] (sI μ r0 37 ((xI μ r0 37) - (w 1)))
    obtain ⟨μ1, em1⟩ : ∃ m : XM, m = sI μ r0 37 ((xI μ r0 37) - (w 1)) := ⟨_, rfl⟩
    replace h := h μ1 em1
    have hm1 : xN μ ≤ xN μ1 := by rw [em1]; exact Nat.le_refl _
    rw [← em1]
    refine run_ok (pc' := 52) [(.iconst 0, 0, 0, 0), (.istore_n 1, 0, 0, 0)] _ _ _ _ (by decide +kernel) ?_
    show G Γ m_MO_remember (d + 1) (0, 0) Q 52 [.ref r0, .int (w 0)] [] μ1
    exact h
  · replace h := h.1 hc
    show G Γ m_MO_remember (d + 1) (0, 0) Q 18 [.ref r0, .int x1] [] μ
    obtain ⟨ib2, h⟩ := h
    obtain ⟨is3, h⟩ := h
    refine run_ok (pc' := 34) [(.aload_n 0, 0, 0, 0), (.getfield 78, 11, 36, 2), (.iload_n 1, 0, 0, 0), (.aload_n 0, 0, 0, 0), (.getfield 78, 11, 36, 2), (.iload_n 1, 0, 0, 0), (.sipush 283, 0, 0, 0), (.iadd, 0, 0, 0), (.iaload, 0, 0, 0), (.iastore, 0, 0, 0)] _ _ _ _ (by decide +kernel) ?_
    show _ ∧ (∃ _, _ ∧ (_ ∧ (∃ _, _ ∧ (_ ∧ (_ ∧ (_))))))
    refine ⟨o_r0_11, r0_36, e_r0_36, o_r0_11, r0_36, e_r0_36, ib2, is3, ?_⟩
    show G Γ m_MO_remember (d + 1) (0, 0) Q 34 [.ref r0, .int x1] [] (sI μ r0_36 x1.toNatClampNeg (xI μ r0_36 (x1 + (w 283)).toNatClampNeg))
    obtain ⟨μ4, em4⟩ : ∃ m : XM, m = sI μ r0_36 x1.toNatClampNeg (xI μ r0_36 (x1 + (w 283)).toNatClampNeg) := ⟨_, rfl⟩
    replace h := h μ4 em4
    have hm4 : xN μ ≤ xN μ4 := by rw [em4]; exact Nat.le_refl _
    rw [← em4]
    refine run_ok (pc' := 11) [(.iinc 1 1, 0, 0, 0), (.goto (-26), 0, 0, 0)] _ _ _ _ (by decide +kernel) ?_
    show G Γ m_MO_remember (d + 1) (0, 0) Q 11 [.ref r0, .int (x1 + w 1)] [] μ4
    exact h
set_option maxRecDepth 100000 in
theorem B_MO_remember_52 {Γ : XG} {d : Nat} {Q : Option Value → XM → Prop} {r0 r0_36 r0_30 : Nat} {x1 : Int32} {μ : XM} (o_r0_11 : ob μ r0 11) (e_r0_36 : xR μ r0 36 = some r0_36) (e_r0_30 : xR μ r0 30 = some r0_30) (h : ((x1 < w 283 → inb μ 0 r0_30 x1 ∧ inS μ 0 r0_36 (((w 283) * (xI μ r0 37)) + x1) ∧ ∀ μ4, μ4 = sI μ r0_36 (((w 283) * (xI μ r0 37)) + x1).toNatClampNeg (xI μ r0_30 x1.toNatClampNeg) → G Γ m_MO_remember (d + 1) (0, 0) Q 52 [.ref r0, .int (x1 + w 1)] [] μ4) ∧ (¬ x1 < w 283 → ∀ μ1, μ1 = sI μ r0 37 ((xI μ r0 37) + (w 1)) → Q none μ1))) : G Γ m_MO_remember (d + 1) (0, 0) Q 52 [.ref r0, .int x1] [] μ := by
  refine run_ok (pc' := 56) [(.iload_n 1, 0, 0, 0), (.sipush 283, 0, 0, 0)] _ _ _ _ (by decide +kernel) ?_
  show G Γ m_MO_remember (d + 1) (0, 0) Q 56 [.ref r0, .int x1] [.int (w 283), .int x1] μ
  refine g_icmp_ge (pc' := 86) (off := 30) (by decide) (by decide +kernel) (fun hc => ?_) (fun hc => ?_)
  · replace h := h.2 hc
    show G Γ m_MO_remember (d + 1) (0, 0) Q 86 [.ref r0, .int x1] [] μ
    refine run_ok (pc' := 96) [(.aload_n 0, 0, 0, 0), (.dup, 0, 0, 0), (.getfield 316, 11, 37, 0), (.iconst 1, 0, 0, 0), (.iadd, 0, 0, 0), (.putfield 316, 11, 37, 0)] _ _ _ _ (by decide +kernel) ?_
    show _ ∧ (_ ∧ (_))
    refine ⟨o_r0_11, o_r0_11, ?_⟩
    show G Γ m_MO_remember (d + 1) (0, 0) Q 96 [.ref r0, .int x1] [] (sI μ r0 37 ((xI μ r0 37) + (w 1)))
    obtain ⟨μ1, em1⟩ : ∃ m : XM, m = sI μ r0 37 ((xI μ r0 37) + (w 1)) := ⟨_, rfl⟩
    replace h := h μ1 em1
    have hm1 : xN μ ≤ xN μ1 := by rw [em1]; exact Nat.le_refl _
    rw [← em1]
    exact g_retv (by decide +kernel) rfl h
  · replace h := h.1 hc
    show G Γ m_MO_remember (d + 1) (0, 0) Q 59 [.ref r0, .int x1] [] μ
    obtain ⟨ib2, h⟩ := h
    obtain ⟨is3, h⟩ := h
    refine run_ok (pc' := 80) [(.aload_n 0, 0, 0, 0), (.getfield 78, 11, 36, 2), (.sipush 283, 0, 0, 0), (.aload_n 0, 0, 0, 0), (.getfield 316, 11, 37, 0), (.imul, 0, 0, 0), (.iload_n 1, 0, 0, 0), (.iadd, 0, 0, 0), (.aload_n 0, 0, 0, 0), (.getfield 58, 11, 30, 2), (.iload_n 1, 0, 0, 0), (.iaload, 0, 0, 0), (.iastore, 0, 0, 0)] _ _ _ _ (by decide +kernel) ?_
    show _ ∧ (∃ _, _ ∧ (_ ∧ (_ ∧ (∃ _, _ ∧ (_ ∧ (_ ∧ (_)))))))
    refine ⟨o_r0_11, r0_36, e_r0_36, o_r0_11, o_r0_11, r0_30, e_r0_30, ib2, is3, ?_⟩
    show G Γ m_MO_remember (d + 1) (0, 0) Q 80 [.ref r0, .int x1] [] (sI μ r0_36 (((w 283) * (xI μ r0 37)) + x1).toNatClampNeg (xI μ r0_30 x1.toNatClampNeg))
    obtain ⟨μ4, em4⟩ : ∃ m : XM, m = sI μ r0_36 (((w 283) * (xI μ r0 37)) + x1).toNatClampNeg (xI μ r0_30 x1.toNatClampNeg) := ⟨_, rfl⟩
    replace h := h μ4 em4
    have hm4 : xN μ ≤ xN μ4 := by rw [em4]; exact Nat.le_refl _
    rw [← em4]
    refine run_ok (pc' := 52) [(.iinc 1 1, 0, 0, 0), (.goto (-31), 0, 0, 0)] _ _ _ _ (by decide +kernel) ?_
    show G Γ m_MO_remember (d + 1) (0, 0) Q 52 [.ref r0, .int (x1 + w 1)] [] μ4
    exact h
/-! FrostBoxModel canPut([III)Z -/
set_option maxRecDepth 100000 in
theorem lk_11_372 : LkV 11 372 m_MO_sumIn 1 := ⟨lc_MO_sumIn, lwG_in (List.mem_of_getElem? (i := 1656) rfl) rfl, lwG_in (List.mem_of_getElem? (i := 1658) rfl) rfl, lwG_in (List.mem_of_getElem? (i := 84) rfl) rfl⟩
set_option maxRecDepth 100000 in
theorem B_MO_canPut_0 {Γ : XG} {d : Nat} {Q : Option Value → XM → Prop} {r0 r1 : Nat} {x2 x3 : Int32} {μ : XM} (o_r0_11 : ob μ r0 11) (h : Call Γ m_MO_isKind d [.ref r0, .int x2] μ (KI (fun v1 μ1 => ((v1 = w 0 → Q (some (.int (w 0))) μ1) ∧ (¬ v1 = w 0 → Call Γ m_MO_isIn d [.long (x3.toInt64), .long (wl 1), .long (wl 9)] μ1 (KI (fun v2 μ2 => ((v2 = w 0 → Q (some (.int (w 0))) μ2) ∧ (¬ v2 = w 0 → inb μ2 0 r1 (w 40) ∧ ((xI μ2 r1 (w 40).toNatClampNeg < w 8 → Call Γ m_MO_sumIn d [.ref r0, .ref r1] μ2 (KI (fun v4 μ4 => ∃ a5, xR μ4 r0 18 = some a5 ∧ inb μ4 0 a5 (w 0) ∧ ((xI μ4 a5 (w 0).toNatClampNeg < v4 + x3 → Q (some (.int (w 0))) μ4) ∧ (¬ xI μ4 a5 (w 0).toNatClampNeg < v4 + x3 → Q (some (.int (w 1))) μ4))))) ∧ (¬ xI μ2 r1 (w 40).toNatClampNeg < w 8 → Q (some (.int (w 0))) μ2))))))))))) : G Γ m_MO_canPut (d + 1) (0, 0) Q 0 [.ref r0, .ref r1, .int x2, .int x3] [] μ := by
  refine run_ok (pc' := 2) [(.aload_n 0, 0, 0, 0), (.iload_n 2, 0, 0, 0)] _ _ _ _ (by decide +kernel) ?_
  show G Γ m_MO_canPut (d + 1) (0, 0) Q 2 [.ref r0, .ref r1, .int x2, .int x3] [.int x2, .ref r0] μ
  refine g_invV (M' := m_MO_isKind) (b1 := 0) (b2 := 0) (As := [.int x2]) (a := r0) (st := []) lk_11_356 (by decide +kernel) rfl (dk_MO_isKind d) (Nat.le_of_ble_eq_true rfl) (Or.inl ⟨11, o_r0_11, rfl⟩) h ?_
  rintro _ μ1 ⟨v1, rfl, h⟩ hn1
  show G Γ m_MO_canPut (d + 1) (0, 0) Q 5 [.ref r0, .ref r1, .int x2, .int x3] [.int v1] μ1
  refine g_ifz_eq (pc' := 49) (off := 44) (by decide) (by decide +kernel) (fun hc => ?_) (fun hc => ?_)
  · replace h := h.1 hc
    show G Γ m_MO_canPut (d + 1) (0, 0) Q 49 [.ref r0, .ref r1, .int x2, .int x3] [] μ1
    refine run_ok (pc' := 50) [(.iconst 0, 0, 0, 0)] _ _ _ _ (by decide +kernel) ?_
    show G Γ m_MO_canPut (d + 1) (0, 0) Q 50 [.ref r0, .ref r1, .int x2, .int x3] [.int (w 0)] μ1
    exact g_retz (by decide +kernel) rfl (Or.inl rfl) h
  · replace h := h.2 hc
    show G Γ m_MO_canPut (d + 1) (0, 0) Q 8 [.ref r0, .ref r1, .int x2, .int x3] [] μ1
    refine run_ok (pc' := 14) [(.iload_n 3, 0, 0, 0), (.i2l, 0, 0, 0), (.lconst 1, 0, 0, 1), (.ldc2_w 370, 0, 0, 9)] _ _ _ _ (by decide +kernel) ?_
    show G Γ m_MO_canPut (d + 1) (0, 0) Q 14 [.ref r0, .ref r1, .int x2, .int x3] [.long (wl 9), .long (wl 1), .long (x3.toInt64)] μ1
    refine g_invS (M' := m_MO_isIn) (b1 := 0) (b2 := 0) (As := [.long (x3.toInt64), .long (wl 1), .long (wl 9)]) (st := []) lk_11_230 (by decide +kernel) rfl (dk_MO_isIn d) (Nat.le_of_ble_eq_true rfl) h ?_
    rintro _ μ2 ⟨v2, rfl, h⟩ hn2
    show G Γ m_MO_canPut (d + 1) (0, 0) Q 17 [.ref r0, .ref r1, .int x2, .int x3] [.int v2] μ2
    refine g_ifz_eq (pc' := 49) (off := 32) (by decide) (by decide +kernel) (fun hc => ?_) (fun hc => ?_)
    · replace h := h.1 hc
      show G Γ m_MO_canPut (d + 1) (0, 0) Q 49 [.ref r0, .ref r1, .int x2, .int x3] [] μ2
      refine run_ok (pc' := 50) [(.iconst 0, 0, 0, 0)] _ _ _ _ (by decide +kernel) ?_
      show G Γ m_MO_canPut (d + 1) (0, 0) Q 50 [.ref r0, .ref r1, .int x2, .int x3] [.int (w 0)] μ2
      exact g_retz (by decide +kernel) rfl (Or.inl rfl) h
    · replace h := h.2 hc
      show G Γ m_MO_canPut (d + 1) (0, 0) Q 20 [.ref r0, .ref r1, .int x2, .int x3] [] μ2
      obtain ⟨ib3, h⟩ := h
      refine run_ok (pc' := 26) [(.aload_n 1, 0, 0, 0), (.bipush 40, 0, 0, 0), (.iaload, 0, 0, 0), (.bipush 8, 0, 0, 0)] _ _ _ _ (by decide +kernel) ?_
      show _ ∧ (_)
      refine ⟨ib3, ?_⟩
      show G Γ m_MO_canPut (d + 1) (0, 0) Q 26 [.ref r0, .ref r1, .int x2, .int x3] [.int (w 8), .int (xI μ2 r1 (w 40).toNatClampNeg)] μ2
      refine g_icmp_ge (pc' := 49) (off := 23) (by decide) (by decide +kernel) (fun hc => ?_) (fun hc => ?_)
      · replace h := h.2 hc
        show G Γ m_MO_canPut (d + 1) (0, 0) Q 49 [.ref r0, .ref r1, .int x2, .int x3] [] μ2
        refine run_ok (pc' := 50) [(.iconst 0, 0, 0, 0)] _ _ _ _ (by decide +kernel) ?_
        show G Γ m_MO_canPut (d + 1) (0, 0) Q 50 [.ref r0, .ref r1, .int x2, .int x3] [.int (w 0)] μ2
        exact g_retz (by decide +kernel) rfl (Or.inl rfl) h
      · replace h := h.1 hc
        show G Γ m_MO_canPut (d + 1) (0, 0) Q 29 [.ref r0, .ref r1, .int x2, .int x3] [] μ2
        refine run_ok (pc' := 31) [(.aload_n 0, 0, 0, 0), (.aload_n 1, 0, 0, 0)] _ _ _ _ (by decide +kernel) ?_
        show G Γ m_MO_canPut (d + 1) (0, 0) Q 31 [.ref r0, .ref r1, .int x2, .int x3] [.ref r1, .ref r0] μ2
        refine g_invV (M' := m_MO_sumIn) (b1 := 0) (b2 := 0) (As := [.ref r1]) (a := r0) (st := []) lk_11_372 (by decide +kernel) rfl (dk_MO_sumIn d) (Nat.le_of_ble_eq_true rfl) (Or.inl ⟨11, (((o_r0_11).mono hn1).mono hn2), rfl⟩) h ?_
        rintro _ μ4 ⟨v4, rfl, h⟩ hn4
        show G Γ m_MO_canPut (d + 1) (0, 0) Q 34 [.ref r0, .ref r1, .int x2, .int x3] [.int v4] μ4
        obtain ⟨a5, ea5, h⟩ := h
        obtain ⟨ib6, h⟩ := h
        refine run_ok (pc' := 42) [(.iload_n 3, 0, 0, 0), (.iadd, 0, 0, 0), (.aload_n 0, 0, 0, 0), (.getfield 37, 11, 18, 2), (.iconst 0, 0, 0, 0), (.iaload, 0, 0, 0)] _ _ _ _ (by decide +kernel) ?_
        show _ ∧ (∃ _, _ ∧ (_ ∧ (_)))
        refine ⟨((((o_r0_11).mono hn1).mono hn2).mono hn4), a5, ea5, ib6, ?_⟩
        show G Γ m_MO_canPut (d + 1) (0, 0) Q 42 [.ref r0, .ref r1, .int x2, .int x3] [.int (xI μ4 a5 (w 0).toNatClampNeg), .int (v4 + x3)] μ4
        refine g_icmp_gt (pc' := 49) (off := 7) (by decide) (by decide +kernel) (fun hc => ?_) (fun hc => ?_)
        · replace h := h.1 hc
          show G Γ m_MO_canPut (d + 1) (0, 0) Q 49 [.ref r0, .ref r1, .int x2, .int x3] [] μ4
          refine run_ok (pc' := 50) [(.iconst 0, 0, 0, 0)] _ _ _ _ (by decide +kernel) ?_
          show G Γ m_MO_canPut (d + 1) (0, 0) Q 50 [.ref r0, .ref r1, .int x2, .int x3] [.int (w 0)] μ4
          exact g_retz (by decide +kernel) rfl (Or.inl rfl) h
        · replace h := h.2 hc
          show G Γ m_MO_canPut (d + 1) (0, 0) Q 45 [.ref r0, .ref r1, .int x2, .int x3] [] μ4
          refine run_ok (pc' := 50) [(.iconst 1, 0, 0, 0), (.goto 4, 0, 0, 0)] _ _ _ _ (by decide +kernel) ?_
          show G Γ m_MO_canPut (d + 1) (0, 0) Q 50 [.ref r0, .ref r1, .int x2, .int x3] [.int (w 1)] μ4
          exact g_retz (by decide +kernel) rfl (Or.inr rfl) h
/-! FrostBoxModel puts([IIII)V -/
set_option maxRecDepth 100000 in
theorem B_MO_puts_0 {Γ : XG} {d : Nat} {Q : Option Value → XM → Prop} {r0 : Nat} {x1 x2 x3 : Int32} {μ : XM}  (h : inb μ 0 r0 (w 40) ∧ G Γ m_MO_puts (d + 1) (0, 0) Q 10 [.ref r0, .int x1, .int x2, .int x3, .int (((w 5) * (xI μ r0 (w 40).toNatClampNeg)) - (w 1))] [] μ) : G Γ m_MO_puts (d + 1) (0, 0) Q 0 [.ref r0, .int x1, .int x2, .int x3] [] μ := by
  obtain ⟨ib1, h⟩ := h
  refine run_ok (pc' := 10) [(.iconst 5, 0, 0, 0), (.aload_n 0, 0, 0, 0), (.bipush 40, 0, 0, 0), (.iaload, 0, 0, 0), (.imul, 0, 0, 0), (.iconst 1, 0, 0, 0), (.isub, 0, 0, 0), (.istore 4, 0, 0, 0)] _ _ _ _ (by decide +kernel) ?_
  show _ ∧ (_)
  refine ⟨ib1, ?_⟩
  show G Γ m_MO_puts (d + 1) (0, 0) Q 10 [.ref r0, .int x1, .int x2, .int x3, .int (((w 5) * (xI μ r0 (w 40).toNatClampNeg)) - (w 1))] [] μ
  exact h
set_option maxRecDepth 100000 in
theorem B_MO_puts_10 {Γ : XG} {d : Nat} {Q : Option Value → XM → Prop} {r0 : Nat} {x1 x2 x3 x4 : Int32} {μ : XM}  (h : ((x4 < w 0 → inS μ 0 r0 (w 0) ∧ ∀ μ2, μ2 = sI μ r0 (w 0).toNatClampNeg x1 → inS μ2 0 r0 (w 1) ∧ ∀ μ4, μ4 = sI μ2 r0 (w 1).toNatClampNeg x2 → inS μ4 0 r0 (w 2) ∧ ∀ μ6, μ6 = sI μ4 r0 (w 2).toNatClampNeg (w 0) → inS μ6 0 r0 (w 3) ∧ ∀ μ8, μ8 = sI μ6 r0 (w 3).toNatClampNeg x3 → inb μ8 0 r0 (w 41) ∧ inS μ8 0 r0 (w 4) ∧ ∀ μ11, μ11 = sI μ8 r0 (w 4).toNatClampNeg (xI μ8 r0 (w 41).toNatClampNeg) → inb μ11 0 r0 (w 40) ∧ inS μ11 0 r0 (w 40) ∧ ∀ μ14, μ14 = sI μ11 r0 (w 40).toNatClampNeg ((xI μ11 r0 (w 40).toNatClampNeg) + (w 1)) → Q none μ14) ∧ (¬ x4 < w 0 → inb μ 0 r0 x4 ∧ inS μ 0 r0 (x4 + (w 5)) ∧ ∀ μ17, μ17 = sI μ r0 (x4 + (w 5)).toNatClampNeg (xI μ r0 x4.toNatClampNeg) → G Γ m_MO_puts (d + 1) (0, 0) Q 10 [.ref r0, .int x1, .int x2, .int x3, .int (x4 + w (-1))] [] μ17))) : G Γ m_MO_puts (d + 1) (0, 0) Q 10 [.ref r0, .int x1, .int x2, .int x3, .int x4] [] μ := by
  refine run_ok (pc' := 12) [(.iload 4, 0, 0, 0)] _ _ _ _ (by decide +kernel) ?_
  show G Γ m_MO_puts (d + 1) (0, 0) Q 12 [.ref r0, .int x1, .int x2, .int x3, .int x4] [.int x4] μ
  refine g_ifz_lt (pc' := 31) (off := 19) (by decide) (by decide +kernel) (fun hc => ?_) (fun hc => ?_)
  · replace h := h.1 hc
    show G Γ m_MO_puts (d + 1) (0, 0) Q 31 [.ref r0, .int x1, .int x2, .int x3, .int x4] [] μ
    obtain ⟨is1, h⟩ := h
    refine run_ok (pc' := 35) [(.aload_n 0, 0, 0, 0), (.iconst 0, 0, 0, 0), (.iload_n 1, 0, 0, 0), (.iastore, 0, 0, 0)] _ _ _ _ (by decide +kernel) ?_
    show _ ∧ (_)
    refine ⟨is1, ?_⟩
    show G Γ m_MO_puts (d + 1) (0, 0) Q 35 [.ref r0, .int x1, .int x2, .int x3, .int x4] [] (sI μ r0 (w 0).toNatClampNeg x1)
    obtain ⟨μ2, em2⟩ : ∃ m : XM, m = sI μ r0 (w 0).toNatClampNeg x1 := ⟨_, rfl⟩
    replace h := h μ2 em2
    have hm2 : xN μ ≤ xN μ2 := by rw [em2]; exact Nat.le_refl _
    rw [← em2]
    obtain ⟨is3, h⟩ := h
    refine run_ok (pc' := 39) [(.aload_n 0, 0, 0, 0), (.iconst 1, 0, 0, 0), (.iload_n 2, 0, 0, 0), (.iastore, 0, 0, 0)] _ _ _ _ (by decide +kernel) ?_
    show _ ∧ (_)
    refine ⟨is3, ?_⟩
    show G Γ m_MO_puts (d + 1) (0, 0) Q 39 [.ref r0, .int x1, .int x2, .int x3, .int x4] [] (sI μ2 r0 (w 1).toNatClampNeg x2)
    obtain ⟨μ4, em4⟩ : ∃ m : XM, m = sI μ2 r0 (w 1).toNatClampNeg x2 := ⟨_, rfl⟩
    replace h := h μ4 em4
    have hm4 : xN μ2 ≤ xN μ4 := by rw [em4]; exact Nat.le_refl _
    rw [← em4]
    obtain ⟨is5, h⟩ := h
    refine run_ok (pc' := 43) [(.aload_n 0, 0, 0, 0), (.iconst 2, 0, 0, 0), (.iconst 0, 0, 0, 0), (.iastore, 0, 0, 0)] _ _ _ _ (by decide +kernel) ?_
    show _ ∧ (_)
    refine ⟨is5, ?_⟩
    show G Γ m_MO_puts (d + 1) (0, 0) Q 43 [.ref r0, .int x1, .int x2, .int x3, .int x4] [] (sI μ4 r0 (w 2).toNatClampNeg (w 0))
    obtain ⟨μ6, em6⟩ : ∃ m : XM, m = sI μ4 r0 (w 2).toNatClampNeg (w 0) := ⟨_, rfl⟩
    replace h := h μ6 em6
    have hm6 : xN μ4 ≤ xN μ6 := by rw [em6]; exact Nat.le_refl _
    rw [← em6]
    obtain ⟨is7, h⟩ := h
    refine run_ok (pc' := 47) [(.aload_n 0, 0, 0, 0), (.iconst 3, 0, 0, 0), (.iload_n 3, 0, 0, 0), (.iastore, 0, 0, 0)] _ _ _ _ (by decide +kernel) ?_
    show _ ∧ (_)
    refine ⟨is7, ?_⟩
    show G Γ m_MO_puts (d + 1) (0, 0) Q 47 [.ref r0, .int x1, .int x2, .int x3, .int x4] [] (sI μ6 r0 (w 3).toNatClampNeg x3)
    obtain ⟨μ8, em8⟩ : ∃ m : XM, m = sI μ6 r0 (w 3).toNatClampNeg x3 := ⟨_, rfl⟩
    replace h := h μ8 em8
    have hm8 : xN μ6 ≤ xN μ8 := by rw [em8]; exact Nat.le_refl _
    rw [← em8]
    obtain ⟨ib9, h⟩ := h
    obtain ⟨is10, h⟩ := h
    refine run_ok (pc' := 54) [(.aload_n 0, 0, 0, 0), (.iconst 4, 0, 0, 0), (.aload_n 0, 0, 0, 0), (.bipush 41, 0, 0, 0), (.iaload, 0, 0, 0), (.iastore, 0, 0, 0)] _ _ _ _ (by decide +kernel) ?_
    show _ ∧ (_ ∧ (_))
    refine ⟨ib9, is10, ?_⟩
    show G Γ m_MO_puts (d + 1) (0, 0) Q 54 [.ref r0, .int x1, .int x2, .int x3, .int x4] [] (sI μ8 r0 (w 4).toNatClampNeg (xI μ8 r0 (w 41).toNatClampNeg))
    obtain ⟨μ11, em11⟩ : ∃ m : XM, m = sI μ8 r0 (w 4).toNatClampNeg (xI μ8 r0 (w 41).toNatClampNeg) := ⟨_, rfl⟩
    replace h := h μ11 em11
    have hm11 : xN μ8 ≤ xN μ11 := by rw [em11]; exact Nat.le_refl _
    rw [← em11]
    obtain ⟨ib12, h⟩ := h
    obtain ⟨is13, h⟩ := h
    refine run_ok (pc' := 62) [(.aload_n 0, 0, 0, 0), (.bipush 40, 0, 0, 0), (.dup2, 0, 0, 0), (.iaload, 0, 0, 0), (.iconst 1, 0, 0, 0), (.iadd, 0, 0, 0), (.iastore, 0, 0, 0)] _ _ _ _ (by decide +kernel) ?_
    show _ ∧ (_ ∧ (_))
    refine ⟨ib12, is13, ?_⟩
    show G Γ m_MO_puts (d + 1) (0, 0) Q 62 [.ref r0, .int x1, .int x2, .int x3, .int x4] [] (sI μ11 r0 (w 40).toNatClampNeg ((xI μ11 r0 (w 40).toNatClampNeg) + (w 1)))
    obtain ⟨μ14, em14⟩ : ∃ m : XM, m = sI μ11 r0 (w 40).toNatClampNeg ((xI μ11 r0 (w 40).toNatClampNeg) + (w 1)) := ⟨_, rfl⟩
    replace h := h μ14 em14
    have hm14 : xN μ11 ≤ xN μ14 := by rw [em14]; exact Nat.le_refl _
    rw [← em14]
    exact g_retv (by decide +kernel) rfl h
  · replace h := h.2 hc
    show G Γ m_MO_puts (d + 1) (0, 0) Q 15 [.ref r0, .int x1, .int x2, .int x3, .int x4] [] μ
    obtain ⟨ib15, h⟩ := h
    obtain ⟨is16, h⟩ := h
    refine run_ok (pc' := 25) [(.aload_n 0, 0, 0, 0), (.iload 4, 0, 0, 0), (.iconst 5, 0, 0, 0), (.iadd, 0, 0, 0), (.aload_n 0, 0, 0, 0), (.iload 4, 0, 0, 0), (.iaload, 0, 0, 0), (.iastore, 0, 0, 0)] _ _ _ _ (by decide +kernel) ?_
    show _ ∧ (_ ∧ (_))
    refine ⟨ib15, is16, ?_⟩
    show G Γ m_MO_puts (d + 1) (0, 0) Q 25 [.ref r0, .int x1, .int x2, .int x3, .int x4] [] (sI μ r0 (x4 + (w 5)).toNatClampNeg (xI μ r0 x4.toNatClampNeg))
    obtain ⟨μ17, em17⟩ : ∃ m : XM, m = sI μ r0 (x4 + (w 5)).toNatClampNeg (xI μ r0 x4.toNatClampNeg) := ⟨_, rfl⟩
    replace h := h μ17 em17
    have hm17 : xN μ ≤ xN μ17 := by rw [em17]; exact Nat.le_refl _
    rw [← em17]
    refine run_ok (pc' := 10) [(.iinc 4 (-1), 0, 0, 0), (.goto (-18), 0, 0, 0)] _ _ _ _ (by decide +kernel) ?_
    show G Γ m_MO_puts (d + 1) (0, 0) Q 10 [.ref r0, .int x1, .int x2, .int x3, .int (x4 + w (-1))] [] μ17
    exact h
/-! FrostBoxModel put(IIZ)I -/
set_option maxRecDepth 100000 in
theorem lk_11_383 : LkS 11 383 m_MO_puts 4 := ⟨lc_MO_puts, lwG_in (List.mem_of_getElem? (i := 1664) rfl) rfl, lwG_in (List.mem_of_getElem? (i := 1665) rfl) rfl⟩
set_option maxRecDepth 100000 in
theorem lk_11_380 : LkV 11 380 m_MO_remember 0 := ⟨lc_MO_remember, lwG_in (List.mem_of_getElem? (i := 1660) rfl) rfl, lwG_in (List.mem_of_getElem? (i := 1662) rfl) rfl, lwG_in (List.mem_of_getElem? (i := 85) rfl) rfl⟩
set_option maxRecDepth 100000 in
theorem lk_11_376 : LkV 11 376 m_MO_canPut 3 := ⟨lc_MO_canPut, lwG_in (List.mem_of_getElem? (i := 1652) rfl) rfl, lwG_in (List.mem_of_getElem? (i := 1654) rfl) rfl, lwG_in (List.mem_of_getElem? (i := 83) rfl) rfl⟩
set_option maxRecDepth 100000 in
theorem B_MO_put3_0 {Γ : XG} {d : Nat} {Q : Option Value → XM → Prop} {r0 r0_30 : Nat} {x1 x2 x3 : Int32} {μ : XM} (o_r0_11 : ob μ r0 11) (e_r0_30 : xR μ r0 30 = some r0_30) (h : ∀ μ1, μ1 = sI μ r0 0 (w 0) → Call Γ m_MO_canPut d [.ref r0, .ref r0_30, .int x1, .int x2] μ1 (KI (fun v2 μ2 => ((v2 = w 0 → Q (some (.int (w (-1)))) μ2) ∧ (¬ v2 = w 0 → Call Γ m_MO_remember d [.ref r0] μ2 (KV (fun μ3 => xR μ3 r0 30 = some r0_30 ∧ ((x3 = w 0 → Call Γ m_MO_puts d [.ref r0_30, .int x1, .int x2, .int (w 0)] μ3 (KV (fun μ5 => xR μ5 r0 30 = some r0_30 ∧ inb μ5 0 r0_30 (w 40) ∧ Q (some (.int (xI μ5 r0_30 (w 40).toNatClampNeg))) μ5))) ∧ (¬ x3 = w 0 → Call Γ m_MO_puts d [.ref r0_30, .int x1, .int x2, .int (w 1)] μ3 (KV (fun μ8 => xR μ8 r0 30 = some r0_30 ∧ inb μ8 0 r0_30 (w 40) ∧ Q (some (.int (xI μ8 r0_30 (w 40).toNatClampNeg))) μ8))))))))))) : G Γ m_MO_put3 (d + 1) (0, 0) Q 0 [.ref r0, .int x1, .int x2, .int x3] [] μ := by
  refine run_ok (pc' := 5) [(.aload_n 0, 0, 0, 0), (.iconst 0, 0, 0, 0), (.putfield 109, 11, 0, 0)] _ _ _ _ (by decide +kernel) ?_
  show _ ∧ (_)
  refine ⟨o_r0_11, ?_⟩
  show G Γ m_MO_put3 (d + 1) (0, 0) Q 5 [.ref r0, .int x1, .int x2, .int x3] [] (sI μ r0 0 (w 0))
  obtain ⟨μ1, em1⟩ : ∃ m : XM, m = sI μ r0 0 (w 0) := ⟨_, rfl⟩
  replace h := h μ1 em1
  have hm1 : xN μ ≤ xN μ1 := by rw [em1]; exact Nat.le_refl _
  rw [← em1]
  refine run_ok (pc' := 12) [(.aload_n 0, 0, 0, 0), (.aload_n 0, 0, 0, 0), (.getfield 58, 11, 30, 2), (.iload_n 1, 0, 0, 0), (.iload_n 2, 0, 0, 0)] _ _ _ _ (by decide +kernel) ?_
  show _ ∧ (∃ _, _ ∧ (_))
  refine ⟨((o_r0_11).mono hm1), r0_30, (by rw [em1]; exact e_r0_30), ?_⟩
  show G Γ m_MO_put3 (d + 1) (0, 0) Q 12 [.ref r0, .int x1, .int x2, .int x3] [.int x2, .int x1, .ref r0_30, .ref r0] μ1
  refine g_invV (M' := m_MO_canPut) (b1 := 0) (b2 := 0) (As := [.ref r0_30, .int x1, .int x2]) (a := r0) (st := []) lk_11_376 (by decide +kernel) rfl (dk_MO_canPut d) (Nat.le_of_ble_eq_true rfl) (Or.inl ⟨11, ((o_r0_11).mono hm1), rfl⟩) h ?_
  rintro _ μ2 ⟨v2, rfl, h⟩ hn2
  show G Γ m_MO_put3 (d + 1) (0, 0) Q 15 [.ref r0, .int x1, .int x2, .int x3] [.int v2] μ2
  refine g_ifz_ne (pc' := 20) (off := 5) (by decide) (by decide +kernel) (fun hc => ?_) (fun hc => ?_)
  · replace h := h.2 hc
    show G Γ m_MO_put3 (d + 1) (0, 0) Q 20 [.ref r0, .int x1, .int x2, .int x3] [] μ2
    refine run_ok (pc' := 21) [(.aload_n 0, 0, 0, 0)] _ _ _ _ (by decide +kernel) ?_
    show G Γ m_MO_put3 (d + 1) (0, 0) Q 21 [.ref r0, .int x1, .int x2, .int x3] [.ref r0] μ2
    refine g_invV (M' := m_MO_remember) (b1 := 0) (b2 := 0) (As := []) (a := r0) (st := []) lk_11_380 (by decide +kernel) rfl (dk_MO_remember d) (Nat.le_of_ble_eq_true rfl) (Or.inl ⟨11, (((o_r0_11).mono hm1).mono hn2), rfl⟩) h ?_
    rintro _ μ3 ⟨rfl, h⟩ hn3
    show G Γ m_MO_put3 (d + 1) (0, 0) Q 24 [.ref r0, .int x1, .int x2, .int x3] [] μ3
    obtain ⟨ea4, h⟩ := h
    refine run_ok (pc' := 31) [(.aload_n 0, 0, 0, 0), (.getfield 58, 11, 30, 2), (.iload_n 1, 0, 0, 0), (.iload_n 2, 0, 0, 0), (.iload_n 3, 0, 0, 0)] _ _ _ _ (by decide +kernel) ?_
    show _ ∧ (∃ _, _ ∧ (_))
    refine ⟨((((o_r0_11).mono hm1).mono hn2).mono hn3), r0_30, ea4, ?_⟩
    show G Γ m_MO_put3 (d + 1) (0, 0) Q 31 [.ref r0, .int x1, .int x2, .int x3] [.int x3, .int x2, .int x1, .ref r0_30] μ3
    refine g_ifz_eq (pc' := 38) (off := 7) (by decide) (by decide +kernel) (fun hc => ?_) (fun hc => ?_)
    · replace h := h.1 hc
      show G Γ m_MO_put3 (d + 1) (0, 0) Q 38 [.ref r0, .int x1, .int x2, .int x3] [.int x2, .int x1, .ref r0_30] μ3
      refine run_ok (pc' := 39) [(.iconst 0, 0, 0, 0)] _ _ _ _ (by decide +kernel) ?_
      show G Γ m_MO_put3 (d + 1) (0, 0) Q 39 [.ref r0, .int x1, .int x2, .int x3] [.int (w 0), .int x2, .int x1, .ref r0_30] μ3
      refine g_invS (M' := m_MO_puts) (b1 := 0) (b2 := 0) (As := [.ref r0_30, .int x1, .int x2, .int (w 0)]) (st := []) lk_11_383 (by decide +kernel) rfl (dk_MO_puts d) (Nat.le_of_ble_eq_true rfl) h ?_
      rintro _ μ5 ⟨rfl, h⟩ hn5
      show G Γ m_MO_put3 (d + 1) (0, 0) Q 42 [.ref r0, .int x1, .int x2, .int x3] [] μ5
      obtain ⟨ea6, h⟩ := h
      obtain ⟨ib7, h⟩ := h
      refine run_ok (pc' := 49) [(.aload_n 0, 0, 0, 0), (.getfield 58, 11, 30, 2), (.bipush 40, 0, 0, 0), (.iaload, 0, 0, 0)] _ _ _ _ (by decide +kernel) ?_
      show _ ∧ (∃ _, _ ∧ (_ ∧ (_)))
      refine ⟨(((((o_r0_11).mono hm1).mono hn2).mono hn3).mono hn5), r0_30, ea6, ib7, ?_⟩
      show G Γ m_MO_put3 (d + 1) (0, 0) Q 49 [.ref r0, .int x1, .int x2, .int x3] [.int (xI μ5 r0_30 (w 40).toNatClampNeg)] μ5
      exact g_reti (by decide +kernel) rfl h
    · replace h := h.2 hc
      show G Γ m_MO_put3 (d + 1) (0, 0) Q 34 [.ref r0, .int x1, .int x2, .int x3] [.int x2, .int x1, .ref r0_30] μ3
      refine run_ok (pc' := 39) [(.iconst 1, 0, 0, 0), (.goto 4, 0, 0, 0)] _ _ _ _ (by decide +kernel) ?_
      show G Γ m_MO_put3 (d + 1) (0, 0) Q 39 [.ref r0, .int x1, .int x2, .int x3] [.int (w 1), .int x2, .int x1, .ref r0_30] μ3
      refine g_invS (M' := m_MO_puts) (b1 := 0) (b2 := 0) (As := [.ref r0_30, .int x1, .int x2, .int (w 1)]) (st := []) lk_11_383 (by decide +kernel) rfl (dk_MO_puts d) (Nat.le_of_ble_eq_true rfl) h ?_
      rintro _ μ8 ⟨rfl, h⟩ hn8
      show G Γ m_MO_put3 (d + 1) (0, 0) Q 42 [.ref r0, .int x1, .int x2, .int x3] [] μ8
      obtain ⟨ea9, h⟩ := h
      obtain ⟨ib10, h⟩ := h
      refine run_ok (pc' := 49) [(.aload_n 0, 0, 0, 0), (.getfield 58, 11, 30, 2), (.bipush 40, 0, 0, 0), (.iaload, 0, 0, 0)] _ _ _ _ (by decide +kernel) ?_
      show _ ∧ (∃ _, _ ∧ (_ ∧ (_)))
      refine ⟨(((((o_r0_11).mono hm1).mono hn2).mono hn3).mono hn8), r0_30, ea9, ib10, ?_⟩
      show G Γ m_MO_put3 (d + 1) (0, 0) Q 49 [.ref r0, .int x1, .int x2, .int x3] [.int (xI μ8 r0_30 (w 40).toNatClampNeg)] μ8
      exact g_reti (by decide +kernel) rfl h
  · replace h := h.1 hc
    show G Γ m_MO_put3 (d + 1) (0, 0) Q 18 [.ref r0, .int x1, .int x2, .int x3] [] μ2
    refine run_ok (pc' := 19) [(.iconst (-1), 0, 0, 0)] _ _ _ _ (by decide +kernel) ?_
    show G Γ m_MO_put3 (d + 1) (0, 0) Q 19 [.ref r0, .int x1, .int x2, .int x3] [.int (w (-1))] μ2
    exact g_reti (by decide +kernel) rfl h
/-! FrostBoxModel drops([II)V -/
set_option maxRecDepth 100000 in
theorem B_MO_drops_0 {Γ : XG} {d : Nat} {Q : Option Value → XM → Prop} {r0 : Nat} {x1 : Int32} {μ : XM}  (h : G Γ m_MO_drops (d + 1) (0, 0) Q 4 [.ref r0, jk, .int ((w 5) * x1)] [] μ) : G Γ m_MO_drops (d + 1) (0, 0) Q 0 [.ref r0, .int x1] [] μ := by
  refine run_ok (pc' := 4) [(.iconst 5, 0, 0, 0), (.iload_n 1, 0, 0, 0), (.imul, 0, 0, 0), (.istore_n 2, 0, 0, 0)] _ _ _ _ (by decide +kernel) ?_
  show G Γ m_MO_drops (d + 1) (0, 0) Q 4 [.ref r0, .int x1, .int ((w 5) * x1)] [] μ
  exact g_wk (ls' := [.ref r0, jk, .int ((w 5) * x1)]) ⟨Or.inr rfl, Or.inl rfl, Or.inr rfl, trivial⟩ h
set_option maxRecDepth 100000 in
theorem B_MO_drops_4 {Γ : XG} {d : Nat} {Q : Option Value → XM → Prop} {r0 : Nat} {x2 : Int32} {μ : XM}  (h : inb μ 0 r0 (w 40) ∧ ((x2 < (w 5) * ((xI μ r0 (w 40).toNatClampNeg) - (w 1)) → inb μ 0 r0 (x2 + (w 5)) ∧ inS μ 0 r0 x2 ∧ ∀ μ5, μ5 = sI μ r0 x2.toNatClampNeg (xI μ r0 (x2 + (w 5)).toNatClampNeg) → G Γ m_MO_drops (d + 1) (0, 0) Q 4 [.ref r0, jk, .int (x2 + w 1)] [] μ5) ∧ (¬ x2 < (w 5) * ((xI μ r0 (w 40).toNatClampNeg) - (w 1)) → inb μ 0 r0 (w 40) ∧ G Γ m_MO_drops (d + 1) (0, 0) Q 39 [.ref r0, jk, .int ((w 5) * ((xI μ r0 (w 40).toNatClampNeg) - (w 1)))] [] μ))) : G Γ m_MO_drops (d + 1) (0, 0) Q 4 [.ref r0, jk, .int x2] [] μ := by
  obtain ⟨ib1, h⟩ := h
  refine run_ok (pc' := 13) [(.iload_n 2, 0, 0, 0), (.iconst 5, 0, 0, 0), (.aload_n 0, 0, 0, 0), (.bipush 40, 0, 0, 0), (.iaload, 0, 0, 0), (.iconst 1, 0, 0, 0), (.isub, 0, 0, 0), (.imul, 0, 0, 0)] _ _ _ _ (by decide +kernel) ?_
  show _ ∧ (_)
  refine ⟨ib1, ?_⟩
  show G Γ m_MO_drops (d + 1) (0, 0) Q 13 [.ref r0, jk, .int x2] [.int ((w 5) * ((xI μ r0 (w 40).toNatClampNeg) - (w 1))), .int x2] μ
  refine g_icmp_ge (pc' := 30) (off := 17) (by decide) (by decide +kernel) (fun hc => ?_) (fun hc => ?_)
  · replace h := h.2 hc
    show G Γ m_MO_drops (d + 1) (0, 0) Q 30 [.ref r0, jk, .int x2] [] μ
    obtain ⟨ib2, h⟩ := h
    refine run_ok (pc' := 39) [(.iconst 5, 0, 0, 0), (.aload_n 0, 0, 0, 0), (.bipush 40, 0, 0, 0), (.iaload, 0, 0, 0), (.iconst 1, 0, 0, 0), (.isub, 0, 0, 0), (.imul, 0, 0, 0), (.istore_n 2, 0, 0, 0)] _ _ _ _ (by decide +kernel) ?_
    show _ ∧ (_)
    refine ⟨ib2, ?_⟩
    show G Γ m_MO_drops (d + 1) (0, 0) Q 39 [.ref r0, jk, .int ((w 5) * ((xI μ r0 (w 40).toNatClampNeg) - (w 1)))] [] μ
    exact h
  · replace h := h.1 hc
    show G Γ m_MO_drops (d + 1) (0, 0) Q 16 [.ref r0, jk, .int x2] [] μ
    obtain ⟨ib3, h⟩ := h
    obtain ⟨is4, h⟩ := h
    refine run_ok (pc' := 24) [(.aload_n 0, 0, 0, 0), (.iload_n 2, 0, 0, 0), (.aload_n 0, 0, 0, 0), (.iload_n 2, 0, 0, 0), (.iconst 5, 0, 0, 0), (.iadd, 0, 0, 0), (.iaload, 0, 0, 0), (.iastore, 0, 0, 0)] _ _ _ _ (by decide +kernel) ?_
    show _ ∧ (_ ∧ (_))
    refine ⟨ib3, is4, ?_⟩
    show G Γ m_MO_drops (d + 1) (0, 0) Q 24 [.ref r0, jk, .int x2] [] (sI μ r0 x2.toNatClampNeg (xI μ r0 (x2 + (w 5)).toNatClampNeg))
    obtain ⟨μ5, em5⟩ : ∃ m : XM, m = sI μ r0 x2.toNatClampNeg (xI μ r0 (x2 + (w 5)).toNatClampNeg) := ⟨_, rfl⟩
    replace h := h μ5 em5
    have hm5 : xN μ ≤ xN μ5 := by rw [em5]; exact Nat.le_refl _
    rw [← em5]
    refine run_ok (pc' := 4) [(.iinc 2 1, 0, 0, 0), (.goto (-23), 0, 0, 0)] _ _ _ _ (by decide +kernel) ?_
    show G Γ m_MO_drops (d + 1) (0, 0) Q 4 [.ref r0, jk, .int (x2 + w 1)] [] μ5
    exact h
set_option maxRecDepth 100000 in
theorem B_MO_drops_39 {Γ : XG} {d : Nat} {Q : Option Value → XM → Prop} {r0 : Nat} {x2 : Int32} {μ : XM}  (h : inb μ 0 r0 (w 40) ∧ ((x2 < (w 5) * (xI μ r0 (w 40).toNatClampNeg) → inS μ 0 r0 x2 ∧ ∀ μ6, μ6 = sI μ r0 x2.toNatClampNeg (w 0) → G Γ m_MO_drops (d + 1) (0, 0) Q 39 [.ref r0, jk, .int (x2 + w 1)] [] μ6) ∧ (¬ x2 < (w 5) * (xI μ r0 (w 40).toNatClampNeg) → inb μ 0 r0 (w 40) ∧ inS μ 0 r0 (w 40) ∧ ∀ μ4, μ4 = sI μ r0 (w 40).toNatClampNeg ((xI μ r0 (w 40).toNatClampNeg) - (w 1)) → Q none μ4))) : G Γ m_MO_drops (d + 1) (0, 0) Q 39 [.ref r0, jk, .int x2] [] μ := by
  obtain ⟨ib1, h⟩ := h
  refine run_ok (pc' := 46) [(.iload_n 2, 0, 0, 0), (.iconst 5, 0, 0, 0), (.aload_n 0, 0, 0, 0), (.bipush 40, 0, 0, 0), (.iaload, 0, 0, 0), (.imul, 0, 0, 0)] _ _ _ _ (by decide +kernel) ?_
  show _ ∧ (_)
  refine ⟨ib1, ?_⟩
  show G Γ m_MO_drops (d + 1) (0, 0) Q 46 [.ref r0, jk, .int x2] [.int ((w 5) * (xI μ r0 (w 40).toNatClampNeg)), .int x2] μ
  refine g_icmp_ge (pc' := 59) (off := 13) (by decide) (by decide +kernel) (fun hc => ?_) (fun hc => ?_)
  · replace h := h.2 hc
    show G Γ m_MO_drops (d + 1) (0, 0) Q 59 [.ref r0, jk, .int x2] [] μ
    obtain ⟨ib2, h⟩ := h
    obtain ⟨is3, h⟩ := h
    refine run_ok (pc' := 67) [(.aload_n 0, 0, 0, 0), (.bipush 40, 0, 0, 0), (.dup2, 0, 0, 0), (.iaload, 0, 0, 0), (.iconst 1, 0, 0, 0), (.isub, 0, 0, 0), (.iastore, 0, 0, 0)] _ _ _ _ (by decide +kernel) ?_
    show _ ∧ (_ ∧ (_))
    refine ⟨ib2, is3, ?_⟩
    show G Γ m_MO_drops (d + 1) (0, 0) Q 67 [.ref r0, jk, .int x2] [] (sI μ r0 (w 40).toNatClampNeg ((xI μ r0 (w 40).toNatClampNeg) - (w 1)))
    obtain ⟨μ4, em4⟩ : ∃ m : XM, m = sI μ r0 (w 40).toNatClampNeg ((xI μ r0 (w 40).toNatClampNeg) - (w 1)) := ⟨_, rfl⟩
    replace h := h μ4 em4
    have hm4 : xN μ ≤ xN μ4 := by rw [em4]; exact Nat.le_refl _
    rw [← em4]
    exact g_retv (by decide +kernel) rfl h
  · replace h := h.1 hc
    show G Γ m_MO_drops (d + 1) (0, 0) Q 49 [.ref r0, jk, .int x2] [] μ
    obtain ⟨is5, h⟩ := h
    refine run_ok (pc' := 53) [(.aload_n 0, 0, 0, 0), (.iload_n 2, 0, 0, 0), (.iconst 0, 0, 0, 0), (.iastore, 0, 0, 0)] _ _ _ _ (by decide +kernel) ?_
    show _ ∧ (_)
    refine ⟨is5, ?_⟩
    show G Γ m_MO_drops (d + 1) (0, 0) Q 53 [.ref r0, jk, .int x2] [] (sI μ r0 x2.toNatClampNeg (w 0))
    obtain ⟨μ6, em6⟩ : ∃ m : XM, m = sI μ r0 x2.toNatClampNeg (w 0) := ⟨_, rfl⟩
    replace h := h μ6 em6
    have hm6 : xN μ ≤ xN μ6 := by rw [em6]; exact Nat.le_refl _
    rw [← em6]
    refine run_ok (pc' := 39) [(.iinc 2 1, 0, 0, 0), (.goto (-17), 0, 0, 0)] _ _ _ _ (by decide +kernel) ?_
    show G Γ m_MO_drops (d + 1) (0, 0) Q 39 [.ref r0, jk, .int (x2 + w 1)] [] μ6
    exact h
/-! FrostBoxModel eats([II)I -/
set_option maxRecDepth 100000 in
theorem lk_11_387 : LkS 11 387 m_MO_drops 2 := ⟨lc_MO_drops, lwG_in (List.mem_of_getElem? (i := 1675) rfl) rfl, lwG_in (List.mem_of_getElem? (i := 1676) rfl) rfl⟩
set_option maxRecDepth 100000 in
theorem B_MO_eats_0 {Γ : XG} {d : Nat} {Q : Option Value → XM → Prop} {r0 r1 : Nat} {x2 : Int32} {μ : XM} (o_r0_11 : ob μ r0 11) (h : inb μ 0 r1 (w 42) ∧ ((xI μ r1 (w 42).toNatClampNeg = w 60 → G Γ m_MO_eats (d + 1) (0, 0) Q 11 [.ref r0, .ref r1, .int x2, .int (w 1)] [] μ) ∧ (¬ xI μ r1 (w 42).toNatClampNeg = w 60 → Call Γ m_MO_valueOf d [.ref r0, .ref r1, .int x2] μ (KI (fun v2 μ2 => inb μ2 0 r1 (w 42) ∧ inb μ2 0 r1 (((w 5) * x2) + (w 0)) ∧ inS μ2 0 r1 ((w 43) + ((w 4) * (xI μ2 r1 (w 42).toNatClampNeg))) ∧ ∀ μ6, μ6 = sI μ2 r1 ((w 43) + ((w 4) * (xI μ2 r1 (w 42).toNatClampNeg))).toNatClampNeg (xI μ2 r1 (((w 5) * x2) + (w 0)).toNatClampNeg) → inb μ6 0 r1 (((w 5) * x2) + (w 1)) ∧ inS μ6 0 r1 (((w 43) + ((w 4) * (xI μ2 r1 (w 42).toNatClampNeg))) + (w 1)) ∧ ∀ μ9, μ9 = sI μ6 r1 (((w 43) + ((w 4) * (xI μ2 r1 (w 42).toNatClampNeg))) + (w 1)).toNatClampNeg (xI μ6 r1 (((w 5) * x2) + (w 1)).toNatClampNeg) → inb μ9 0 r1 (((w 5) * x2) + (w 2)) ∧ inS μ9 0 r1 (((w 43) + ((w 4) * (xI μ2 r1 (w 42).toNatClampNeg))) + (w 2)) ∧ ∀ μ12, μ12 = sI μ9 r1 (((w 43) + ((w 4) * (xI μ2 r1 (w 42).toNatClampNeg))) + (w 2)).toNatClampNeg (xI μ9 r1 (((w 5) * x2) + (w 2)).toNatClampNeg) → inS μ12 0 r1 (((w 43) + ((w 4) * (xI μ2 r1 (w 42).toNatClampNeg))) + (w 3)) ∧ ∀ μ14, μ14 = sI μ12 r1 (((w 43) + ((w 4) * (xI μ2 r1 (w 42).toNatClampNeg))) + (w 3)).toNatClampNeg v2 → inb μ14 0 r1 (w 42) ∧ inS μ14 0 r1 (w 42) ∧ ∀ μ17, μ17 = sI μ14 r1 (w 42).toNatClampNeg ((xI μ14 r1 (w 42).toNatClampNeg) + (w 1)) → Call Γ m_MO_drops d [.ref r1, .int x2] μ17 (KV (fun μ18 => Q (some (.int v2)) μ18))))))) : G Γ m_MO_eats (d + 1) (0, 0) Q 0 [.ref r0, .ref r1, .int x2] [] μ := by
  obtain ⟨ib1, h⟩ := h
  refine run_ok (pc' := 6) [(.aload_n 1, 0, 0, 0), (.bipush 42, 0, 0, 0), (.iaload, 0, 0, 0), (.bipush 60, 0, 0, 0)] _ _ _ _ (by decide +kernel) ?_
  show _ ∧ (_)
  refine ⟨ib1, ?_⟩
  show G Γ m_MO_eats (d + 1) (0, 0) Q 6 [.ref r0, .ref r1, .int x2] [.int (w 60), .int (xI μ r1 (w 42).toNatClampNeg)] μ
  refine g_icmp_ne (pc' := 46) (off := 40) (by decide) (by decide +kernel) (fun hc => ?_) (fun hc => ?_)
  · replace h := h.2 hc
    show G Γ m_MO_eats (d + 1) (0, 0) Q 46 [.ref r0, .ref r1, .int x2] [] μ
    refine run_ok (pc' := 49) [(.aload_n 0, 0, 0, 0), (.aload_n 1, 0, 0, 0), (.iload_n 2, 0, 0, 0)] _ _ _ _ (by decide +kernel) ?_
    show G Γ m_MO_eats (d + 1) (0, 0) Q 49 [.ref r0, .ref r1, .int x2] [.int x2, .ref r1, .ref r0] μ
    refine g_invV (M' := m_MO_valueOf) (b1 := 0) (b2 := 0) (As := [.ref r1, .int x2]) (a := r0) (st := []) lk_11_350 (by decide +kernel) rfl (dk_MO_valueOf d) (Nat.le_of_ble_eq_true rfl) (Or.inl ⟨11, o_r0_11, rfl⟩) h ?_
    rintro _ μ2 ⟨v2, rfl, h⟩ hn2
    show G Γ m_MO_eats (d + 1) (0, 0) Q 52 [.ref r0, .ref r1, .int x2] [.int v2] μ2
    obtain ⟨ib3, h⟩ := h
    obtain ⟨ib4, h⟩ := h
    obtain ⟨is5, h⟩ := h
    refine run_ok (pc' := 75) [(.istore_n 3, 0, 0, 0), (.bipush 43, 0, 0, 0), (.iconst 4, 0, 0, 0), (.aload_n 1, 0, 0, 0), (.bipush 42, 0, 0, 0), (.iaload, 0, 0, 0), (.imul, 0, 0, 0), (.iadd, 0, 0, 0), (.istore 4, 0, 0, 0), (.aload_n 1, 0, 0, 0), (.iload 4, 0, 0, 0), (.aload_n 1, 0, 0, 0), (.iconst 5, 0, 0, 0), (.iload_n 2, 0, 0, 0), (.imul, 0, 0, 0), (.iconst 0, 0, 0, 0), (.iadd, 0, 0, 0), (.iaload, 0, 0, 0), (.iastore, 0, 0, 0)] _ _ _ _ (by decide +kernel) ?_
    show _ ∧ (_ ∧ (_ ∧ (_)))
    refine ⟨ib3, ib4, is5, ?_⟩
    show G Γ m_MO_eats (d + 1) (0, 0) Q 75 [.ref r0, .ref r1, .int x2, .int v2, .int ((w 43) + ((w 4) * (xI μ2 r1 (w 42).toNatClampNeg)))] [] (sI μ2 r1 ((w 43) + ((w 4) * (xI μ2 r1 (w 42).toNatClampNeg))).toNatClampNeg (xI μ2 r1 (((w 5) * x2) + (w 0)).toNatClampNeg))
    obtain ⟨μ6, em6⟩ : ∃ m : XM, m = sI μ2 r1 ((w 43) + ((w 4) * (xI μ2 r1 (w 42).toNatClampNeg))).toNatClampNeg (xI μ2 r1 (((w 5) * x2) + (w 0)).toNatClampNeg) := ⟨_, rfl⟩
    replace h := h μ6 em6
    have hm6 : xN μ2 ≤ xN μ6 := by rw [em6]; exact Nat.le_refl _
    rw [← em6]
    obtain ⟨ib7, h⟩ := h
    obtain ⟨is8, h⟩ := h
    refine run_ok (pc' := 88) [(.aload_n 1, 0, 0, 0), (.iload 4, 0, 0, 0), (.iconst 1, 0, 0, 0), (.iadd, 0, 0, 0), (.aload_n 1, 0, 0, 0), (.iconst 5, 0, 0, 0), (.iload_n 2, 0, 0, 0), (.imul, 0, 0, 0), (.iconst 1, 0, 0, 0), (.iadd, 0, 0, 0), (.iaload, 0, 0, 0), (.iastore, 0, 0, 0)] _ _ _ _ (by decide +kernel) ?_
    show _ ∧ (_ ∧ (_))
    refine ⟨ib7, is8, ?_⟩
    show G Γ m_MO_eats (d + 1) (0, 0) Q 88 [.ref r0, .ref r1, .int x2, .int v2, .int ((w 43) + ((w 4) * (xI μ2 r1 (w 42).toNatClampNeg)))] [] (sI μ6 r1 (((w 43) + ((w 4) * (xI μ2 r1 (w 42).toNatClampNeg))) + (w 1)).toNatClampNeg (xI μ6 r1 (((w 5) * x2) + (w 1)).toNatClampNeg))
    obtain ⟨μ9, em9⟩ : ∃ m : XM, m = sI μ6 r1 (((w 43) + ((w 4) * (xI μ2 r1 (w 42).toNatClampNeg))) + (w 1)).toNatClampNeg (xI μ6 r1 (((w 5) * x2) + (w 1)).toNatClampNeg) := ⟨_, rfl⟩
    replace h := h μ9 em9
    have hm9 : xN μ6 ≤ xN μ9 := by rw [em9]; exact Nat.le_refl _
    rw [← em9]
    obtain ⟨ib10, h⟩ := h
    obtain ⟨is11, h⟩ := h
    refine run_ok (pc' := 101) [(.aload_n 1, 0, 0, 0), (.iload 4, 0, 0, 0), (.iconst 2, 0, 0, 0), (.iadd, 0, 0, 0), (.aload_n 1, 0, 0, 0), (.iconst 5, 0, 0, 0), (.iload_n 2, 0, 0, 0), (.imul, 0, 0, 0), (.iconst 2, 0, 0, 0), (.iadd, 0, 0, 0), (.iaload, 0, 0, 0), (.iastore, 0, 0, 0)] _ _ _ _ (by decide +kernel) ?_
    show _ ∧ (_ ∧ (_))
    refine ⟨ib10, is11, ?_⟩
    show G Γ m_MO_eats (d + 1) (0, 0) Q 101 [.ref r0, .ref r1, .int x2, .int v2, .int ((w 43) + ((w 4) * (xI μ2 r1 (w 42).toNatClampNeg)))] [] (sI μ9 r1 (((w 43) + ((w 4) * (xI μ2 r1 (w 42).toNatClampNeg))) + (w 2)).toNatClampNeg (xI μ9 r1 (((w 5) * x2) + (w 2)).toNatClampNeg))
    obtain ⟨μ12, em12⟩ : ∃ m : XM, m = sI μ9 r1 (((w 43) + ((w 4) * (xI μ2 r1 (w 42).toNatClampNeg))) + (w 2)).toNatClampNeg (xI μ9 r1 (((w 5) * x2) + (w 2)).toNatClampNeg) := ⟨_, rfl⟩
    replace h := h μ12 em12
    have hm12 : xN μ9 ≤ xN μ12 := by rw [em12]; exact Nat.le_refl _
    rw [← em12]
    obtain ⟨is13, h⟩ := h
    refine run_ok (pc' := 108) [(.aload_n 1, 0, 0, 0), (.iload 4, 0, 0, 0), (.iconst 3, 0, 0, 0), (.iadd, 0, 0, 0), (.iload_n 3, 0, 0, 0), (.iastore, 0, 0, 0)] _ _ _ _ (by decide +kernel) ?_
    show _ ∧ (_)
    refine ⟨is13, ?_⟩
    show G Γ m_MO_eats (d + 1) (0, 0) Q 108 [.ref r0, .ref r1, .int x2, .int v2, .int ((w 43) + ((w 4) * (xI μ2 r1 (w 42).toNatClampNeg)))] [] (sI μ12 r1 (((w 43) + ((w 4) * (xI μ2 r1 (w 42).toNatClampNeg))) + (w 3)).toNatClampNeg v2)
    obtain ⟨μ14, em14⟩ : ∃ m : XM, m = sI μ12 r1 (((w 43) + ((w 4) * (xI μ2 r1 (w 42).toNatClampNeg))) + (w 3)).toNatClampNeg v2 := ⟨_, rfl⟩
    replace h := h μ14 em14
    have hm14 : xN μ12 ≤ xN μ14 := by rw [em14]; exact Nat.le_refl _
    rw [← em14]
    obtain ⟨ib15, h⟩ := h
    obtain ⟨is16, h⟩ := h
    refine run_ok (pc' := 116) [(.aload_n 1, 0, 0, 0), (.bipush 42, 0, 0, 0), (.dup2, 0, 0, 0), (.iaload, 0, 0, 0), (.iconst 1, 0, 0, 0), (.iadd, 0, 0, 0), (.iastore, 0, 0, 0)] _ _ _ _ (by decide +kernel) ?_
    show _ ∧ (_ ∧ (_))
    refine ⟨ib15, is16, ?_⟩
    show G Γ m_MO_eats (d + 1) (0, 0) Q 116 [.ref r0, .ref r1, .int x2, .int v2, .int ((w 43) + ((w 4) * (xI μ2 r1 (w 42).toNatClampNeg)))] [] (sI μ14 r1 (w 42).toNatClampNeg ((xI μ14 r1 (w 42).toNatClampNeg) + (w 1)))
    obtain ⟨μ17, em17⟩ : ∃ m : XM, m = sI μ14 r1 (w 42).toNatClampNeg ((xI μ14 r1 (w 42).toNatClampNeg) + (w 1)) := ⟨_, rfl⟩
    replace h := h μ17 em17
    have hm17 : xN μ14 ≤ xN μ17 := by rw [em17]; exact Nat.le_refl _
    rw [← em17]
    refine run_ok (pc' := 118) [(.aload_n 1, 0, 0, 0), (.iload_n 2, 0, 0, 0)] _ _ _ _ (by decide +kernel) ?_
    show G Γ m_MO_eats (d + 1) (0, 0) Q 118 [.ref r0, .ref r1, .int x2, .int v2, .int ((w 43) + ((w 4) * (xI μ2 r1 (w 42).toNatClampNeg)))] [.int x2, .ref r1] μ17
    refine g_invS (M' := m_MO_drops) (b1 := 0) (b2 := 0) (As := [.ref r1, .int x2]) (st := []) lk_11_387 (by decide +kernel) rfl (dk_MO_drops d) (Nat.le_of_ble_eq_true rfl) h ?_
    rintro _ μ18 ⟨rfl, h⟩ hn18
    show G Γ m_MO_eats (d + 1) (0, 0) Q 121 [.ref r0, .ref r1, .int x2, .int v2, .int ((w 43) + ((w 4) * (xI μ2 r1 (w 42).toNatClampNeg)))] [] μ18
    refine run_ok (pc' := 122) [(.iload_n 3, 0, 0, 0)] _ _ _ _ (by decide +kernel) ?_
    show G Γ m_MO_eats (d + 1) (0, 0) Q 122 [.ref r0, .ref r1, .int x2, .int v2, .int ((w 43) + ((w 4) * (xI μ2 r1 (w 42).toNatClampNeg)))] [.int v2] μ18
    exact g_reti (by decide +kernel) rfl h
  · replace h := h.1 hc
    show G Γ m_MO_eats (d + 1) (0, 0) Q 9 [.ref r0, .ref r1, .int x2] [] μ
    refine run_ok (pc' := 11) [(.iconst 1, 0, 0, 0), (.istore_n 3, 0, 0, 0)] _ _ _ _ (by decide +kernel) ?_
    show G Γ m_MO_eats (d + 1) (0, 0) Q 11 [.ref r0, .ref r1, .int x2, .int (w 1)] [] μ
    exact h
set_option maxRecDepth 100000 in
theorem B_MO_eats_11 {Γ : XG} {d : Nat} {Q : Option Value → XM → Prop} {r0 r1 : Nat} {x2 x3 : Int32} {μ : XM} (o_r0_11 : ob μ r0 11) (h : ((w 236 < x3 → inb μ 0 r1 (w 42) ∧ inS μ 0 r1 (w 42) ∧ ∀ μ3, μ3 = sI μ r1 (w 42).toNatClampNeg ((xI μ r1 (w 42).toNatClampNeg) - (w 1)) → Call Γ m_MO_valueOf d [.ref r0, .ref r1, .int x2] μ3 (KI (fun v4 μ4 => inb μ4 0 r1 (w 42) ∧ inb μ4 0 r1 (((w 5) * x2) + (w 0)) ∧ inS μ4 0 r1 ((w 43) + ((w 4) * (xI μ4 r1 (w 42).toNatClampNeg))) ∧ ∀ μ8, μ8 = sI μ4 r1 ((w 43) + ((w 4) * (xI μ4 r1 (w 42).toNatClampNeg))).toNatClampNeg (xI μ4 r1 (((w 5) * x2) + (w 0)).toNatClampNeg) → inb μ8 0 r1 (((w 5) * x2) + (w 1)) ∧ inS μ8 0 r1 (((w 43) + ((w 4) * (xI μ4 r1 (w 42).toNatClampNeg))) + (w 1)) ∧ ∀ μ11, μ11 = sI μ8 r1 (((w 43) + ((w 4) * (xI μ4 r1 (w 42).toNatClampNeg))) + (w 1)).toNatClampNeg (xI μ8 r1 (((w 5) * x2) + (w 1)).toNatClampNeg) → inb μ11 0 r1 (((w 5) * x2) + (w 2)) ∧ inS μ11 0 r1 (((w 43) + ((w 4) * (xI μ4 r1 (w 42).toNatClampNeg))) + (w 2)) ∧ ∀ μ14, μ14 = sI μ11 r1 (((w 43) + ((w 4) * (xI μ4 r1 (w 42).toNatClampNeg))) + (w 2)).toNatClampNeg (xI μ11 r1 (((w 5) * x2) + (w 2)).toNatClampNeg) → inS μ14 0 r1 (((w 43) + ((w 4) * (xI μ4 r1 (w 42).toNatClampNeg))) + (w 3)) ∧ ∀ μ16, μ16 = sI μ14 r1 (((w 43) + ((w 4) * (xI μ4 r1 (w 42).toNatClampNeg))) + (w 3)).toNatClampNeg v4 → inb μ16 0 r1 (w 42) ∧ inS μ16 0 r1 (w 42) ∧ ∀ μ19, μ19 = sI μ16 r1 (w 42).toNatClampNeg ((xI μ16 r1 (w 42).toNatClampNeg) + (w 1)) → Call Γ m_MO_drops d [.ref r1, .int x2] μ19 (KV (fun μ20 => Q (some (.int v4)) μ20))))) ∧ (¬ w 236 < x3 → inb μ 0 r1 (((w 42) + x3) + (w 4)) ∧ inS μ 0 r1 ((w 42) + x3) ∧ ∀ μ23, μ23 = sI μ r1 ((w 42) + x3).toNatClampNeg (xI μ r1 (((w 42) + x3) + (w 4)).toNatClampNeg) → G Γ m_MO_eats (d + 1) (0, 0) Q 11 [.ref r0, .ref r1, .int x2, .int (x3 + w 1)] [] μ23))) : G Γ m_MO_eats (d + 1) (0, 0) Q 11 [.ref r0, .ref r1, .int x2, .int x3] [] μ := by
  refine run_ok (pc' := 15) [(.iload_n 3, 0, 0, 0), (.sipush 236, 0, 0, 0)] _ _ _ _ (by decide +kernel) ?_
  show G Γ m_MO_eats (d + 1) (0, 0) Q 15 [.ref r0, .ref r1, .int x2, .int x3] [.int (w 236), .int x3] μ
  refine g_icmp_gt (pc' := 38) (off := 23) (by decide) (by decide +kernel) (fun hc => ?_) (fun hc => ?_)
  · replace h := h.1 hc
    show G Γ m_MO_eats (d + 1) (0, 0) Q 38 [.ref r0, .ref r1, .int x2, .int x3] [] μ
    obtain ⟨ib1, h⟩ := h
    obtain ⟨is2, h⟩ := h
    refine run_ok (pc' := 46) [(.aload_n 1, 0, 0, 0), (.bipush 42, 0, 0, 0), (.dup2, 0, 0, 0), (.iaload, 0, 0, 0), (.iconst 1, 0, 0, 0), (.isub, 0, 0, 0), (.iastore, 0, 0, 0)] _ _ _ _ (by decide +kernel) ?_
    show _ ∧ (_ ∧ (_))
    refine ⟨ib1, is2, ?_⟩
    show G Γ m_MO_eats (d + 1) (0, 0) Q 46 [.ref r0, .ref r1, .int x2, .int x3] [] (sI μ r1 (w 42).toNatClampNeg ((xI μ r1 (w 42).toNatClampNeg) - (w 1)))
    obtain ⟨μ3, em3⟩ : ∃ m : XM, m = sI μ r1 (w 42).toNatClampNeg ((xI μ r1 (w 42).toNatClampNeg) - (w 1)) := ⟨_, rfl⟩
    replace h := h μ3 em3
    have hm3 : xN μ ≤ xN μ3 := by rw [em3]; exact Nat.le_refl _
    rw [← em3]
    refine run_ok (pc' := 49) [(.aload_n 0, 0, 0, 0), (.aload_n 1, 0, 0, 0), (.iload_n 2, 0, 0, 0)] _ _ _ _ (by decide +kernel) ?_
    show G Γ m_MO_eats (d + 1) (0, 0) Q 49 [.ref r0, .ref r1, .int x2, .int x3] [.int x2, .ref r1, .ref r0] μ3
    refine g_invV (M' := m_MO_valueOf) (b1 := 0) (b2 := 0) (As := [.ref r1, .int x2]) (a := r0) (st := []) lk_11_350 (by decide +kernel) rfl (dk_MO_valueOf d) (Nat.le_of_ble_eq_true rfl) (Or.inl ⟨11, ((o_r0_11).mono hm3), rfl⟩) h ?_
    rintro _ μ4 ⟨v4, rfl, h⟩ hn4
    show G Γ m_MO_eats (d + 1) (0, 0) Q 52 [.ref r0, .ref r1, .int x2, .int x3] [.int v4] μ4
    obtain ⟨ib5, h⟩ := h
    obtain ⟨ib6, h⟩ := h
    obtain ⟨is7, h⟩ := h
    refine run_ok (pc' := 75) [(.istore_n 3, 0, 0, 0), (.bipush 43, 0, 0, 0), (.iconst 4, 0, 0, 0), (.aload_n 1, 0, 0, 0), (.bipush 42, 0, 0, 0), (.iaload, 0, 0, 0), (.imul, 0, 0, 0), (.iadd, 0, 0, 0), (.istore 4, 0, 0, 0), (.aload_n 1, 0, 0, 0), (.iload 4, 0, 0, 0), (.aload_n 1, 0, 0, 0), (.iconst 5, 0, 0, 0), (.iload_n 2, 0, 0, 0), (.imul, 0, 0, 0), (.iconst 0, 0, 0, 0), (.iadd, 0, 0, 0), (.iaload, 0, 0, 0), (.iastore, 0, 0, 0)] _ _ _ _ (by decide +kernel) ?_
    show _ ∧ (_ ∧ (_ ∧ (_)))
    refine ⟨ib5, ib6, is7, ?_⟩
    show G Γ m_MO_eats (d + 1) (0, 0) Q 75 [.ref r0, .ref r1, .int x2, .int v4, .int ((w 43) + ((w 4) * (xI μ4 r1 (w 42).toNatClampNeg)))] [] (sI μ4 r1 ((w 43) + ((w 4) * (xI μ4 r1 (w 42).toNatClampNeg))).toNatClampNeg (xI μ4 r1 (((w 5) * x2) + (w 0)).toNatClampNeg))
    obtain ⟨μ8, em8⟩ : ∃ m : XM, m = sI μ4 r1 ((w 43) + ((w 4) * (xI μ4 r1 (w 42).toNatClampNeg))).toNatClampNeg (xI μ4 r1 (((w 5) * x2) + (w 0)).toNatClampNeg) := ⟨_, rfl⟩
    replace h := h μ8 em8
    have hm8 : xN μ4 ≤ xN μ8 := by rw [em8]; exact Nat.le_refl _
    rw [← em8]
    obtain ⟨ib9, h⟩ := h
    obtain ⟨is10, h⟩ := h
    refine run_ok (pc' := 88) [(.aload_n 1, 0, 0, 0), (.iload 4, 0, 0, 0), (.iconst 1, 0, 0, 0), (.iadd, 0, 0, 0), (.aload_n 1, 0, 0, 0), (.iconst 5, 0, 0, 0), (.iload_n 2, 0, 0, 0), (.imul, 0, 0, 0), (.iconst 1, 0, 0, 0), (.iadd, 0, 0, 0), (.iaload, 0, 0, 0), (.iastore, 0, 0, 0)] _ _ _ _ (by decide +kernel) ?_
    show _ ∧ (_ ∧ (_))
    refine ⟨ib9, is10, ?_⟩
    show G Γ m_MO_eats (d + 1) (0, 0) Q 88 [.ref r0, .ref r1, .int x2, .int v4, .int ((w 43) + ((w 4) * (xI μ4 r1 (w 42).toNatClampNeg)))] [] (sI μ8 r1 (((w 43) + ((w 4) * (xI μ4 r1 (w 42).toNatClampNeg))) + (w 1)).toNatClampNeg (xI μ8 r1 (((w 5) * x2) + (w 1)).toNatClampNeg))
    obtain ⟨μ11, em11⟩ : ∃ m : XM, m = sI μ8 r1 (((w 43) + ((w 4) * (xI μ4 r1 (w 42).toNatClampNeg))) + (w 1)).toNatClampNeg (xI μ8 r1 (((w 5) * x2) + (w 1)).toNatClampNeg) := ⟨_, rfl⟩
    replace h := h μ11 em11
    have hm11 : xN μ8 ≤ xN μ11 := by rw [em11]; exact Nat.le_refl _
    rw [← em11]
    obtain ⟨ib12, h⟩ := h
    obtain ⟨is13, h⟩ := h
    refine run_ok (pc' := 101) [(.aload_n 1, 0, 0, 0), (.iload 4, 0, 0, 0), (.iconst 2, 0, 0, 0), (.iadd, 0, 0, 0), (.aload_n 1, 0, 0, 0), (.iconst 5, 0, 0, 0), (.iload_n 2, 0, 0, 0), (.imul, 0, 0, 0), (.iconst 2, 0, 0, 0), (.iadd, 0, 0, 0), (.iaload, 0, 0, 0), (.iastore, 0, 0, 0)] _ _ _ _ (by decide +kernel) ?_
    show _ ∧ (_ ∧ (_))
    refine ⟨ib12, is13, ?_⟩
    show G Γ m_MO_eats (d + 1) (0, 0) Q 101 [.ref r0, .ref r1, .int x2, .int v4, .int ((w 43) + ((w 4) * (xI μ4 r1 (w 42).toNatClampNeg)))] [] (sI μ11 r1 (((w 43) + ((w 4) * (xI μ4 r1 (w 42).toNatClampNeg))) + (w 2)).toNatClampNeg (xI μ11 r1 (((w 5) * x2) + (w 2)).toNatClampNeg))
    obtain ⟨μ14, em14⟩ : ∃ m : XM, m = sI μ11 r1 (((w 43) + ((w 4) * (xI μ4 r1 (w 42).toNatClampNeg))) + (w 2)).toNatClampNeg (xI μ11 r1 (((w 5) * x2) + (w 2)).toNatClampNeg) := ⟨_, rfl⟩
    replace h := h μ14 em14
    have hm14 : xN μ11 ≤ xN μ14 := by rw [em14]; exact Nat.le_refl _
    rw [← em14]
    obtain ⟨is15, h⟩ := h
    refine run_ok (pc' := 108) [(.aload_n 1, 0, 0, 0), (.iload 4, 0, 0, 0), (.iconst 3, 0, 0, 0), (.iadd, 0, 0, 0), (.iload_n 3, 0, 0, 0), (.iastore, 0, 0, 0)] _ _ _ _ (by decide +kernel) ?_
    show _ ∧ (_)
    refine ⟨is15, ?_⟩
    show G Γ m_MO_eats (d + 1) (0, 0) Q 108 [.ref r0, .ref r1, .int x2, .int v4, .int ((w 43) + ((w 4) * (xI μ4 r1 (w 42).toNatClampNeg)))] [] (sI μ14 r1 (((w 43) + ((w 4) * (xI μ4 r1 (w 42).toNatClampNeg))) + (w 3)).toNatClampNeg v4)
    obtain ⟨μ16, em16⟩ : ∃ m : XM, m = sI μ14 r1 (((w 43) + ((w 4) * (xI μ4 r1 (w 42).toNatClampNeg))) + (w 3)).toNatClampNeg v4 := ⟨_, rfl⟩
    replace h := h μ16 em16
    have hm16 : xN μ14 ≤ xN μ16 := by rw [em16]; exact Nat.le_refl _
    rw [← em16]
    obtain ⟨ib17, h⟩ := h
    obtain ⟨is18, h⟩ := h
    refine run_ok (pc' := 116) [(.aload_n 1, 0, 0, 0), (.bipush 42, 0, 0, 0), (.dup2, 0, 0, 0), (.iaload, 0, 0, 0), (.iconst 1, 0, 0, 0), (.iadd, 0, 0, 0), (.iastore, 0, 0, 0)] _ _ _ _ (by decide +kernel) ?_
    show _ ∧ (_ ∧ (_))
    refine ⟨ib17, is18, ?_⟩
    show G Γ m_MO_eats (d + 1) (0, 0) Q 116 [.ref r0, .ref r1, .int x2, .int v4, .int ((w 43) + ((w 4) * (xI μ4 r1 (w 42).toNatClampNeg)))] [] (sI μ16 r1 (w 42).toNatClampNeg ((xI μ16 r1 (w 42).toNatClampNeg) + (w 1)))
    obtain ⟨μ19, em19⟩ : ∃ m : XM, m = sI μ16 r1 (w 42).toNatClampNeg ((xI μ16 r1 (w 42).toNatClampNeg) + (w 1)) := ⟨_, rfl⟩
    replace h := h μ19 em19
    have hm19 : xN μ16 ≤ xN μ19 := by rw [em19]; exact Nat.le_refl _
    rw [← em19]
    refine run_ok (pc' := 118) [(.aload_n 1, 0, 0, 0), (.iload_n 2, 0, 0, 0)] _ _ _ _ (by decide +kernel) ?_
    show G Γ m_MO_eats (d + 1) (0, 0) Q 118 [.ref r0, .ref r1, .int x2, .int v4, .int ((w 43) + ((w 4) * (xI μ4 r1 (w 42).toNatClampNeg)))] [.int x2, .ref r1] μ19
    refine g_invS (M' := m_MO_drops) (b1 := 0) (b2 := 0) (As := [.ref r1, .int x2]) (st := []) lk_11_387 (by decide +kernel) rfl (dk_MO_drops d) (Nat.le_of_ble_eq_true rfl) h ?_
    rintro _ μ20 ⟨rfl, h⟩ hn20
    show G Γ m_MO_eats (d + 1) (0, 0) Q 121 [.ref r0, .ref r1, .int x2, .int v4, .int ((w 43) + ((w 4) * (xI μ4 r1 (w 42).toNatClampNeg)))] [] μ20
    refine run_ok (pc' := 122) [(.iload_n 3, 0, 0, 0)] _ _ _ _ (by decide +kernel) ?_
    show G Γ m_MO_eats (d + 1) (0, 0) Q 122 [.ref r0, .ref r1, .int x2, .int v4, .int ((w 43) + ((w 4) * (xI μ4 r1 (w 42).toNatClampNeg)))] [.int v4] μ20
    exact g_reti (by decide +kernel) rfl h
  · replace h := h.2 hc
    show G Γ m_MO_eats (d + 1) (0, 0) Q 18 [.ref r0, .ref r1, .int x2, .int x3] [] μ
    obtain ⟨ib21, h⟩ := h
    obtain ⟨is22, h⟩ := h
    refine run_ok (pc' := 32) [(.aload_n 1, 0, 0, 0), (.bipush 42, 0, 0, 0), (.iload_n 3, 0, 0, 0), (.iadd, 0, 0, 0), (.aload_n 1, 0, 0, 0), (.bipush 42, 0, 0, 0), (.iload_n 3, 0, 0, 0), (.iadd, 0, 0, 0), (.iconst 4, 0, 0, 0), (.iadd, 0, 0, 0), (.iaload, 0, 0, 0), (.iastore, 0, 0, 0)] _ _ _ _ (by decide +kernel) ?_
    show _ ∧ (_ ∧ (_))
    refine ⟨ib21, is22, ?_⟩
    show G Γ m_MO_eats (d + 1) (0, 0) Q 32 [.ref r0, .ref r1, .int x2, .int x3] [] (sI μ r1 ((w 42) + x3).toNatClampNeg (xI μ r1 (((w 42) + x3) + (w 4)).toNatClampNeg))
    obtain ⟨μ23, em23⟩ : ∃ m : XM, m = sI μ r1 ((w 42) + x3).toNatClampNeg (xI μ r1 (((w 42) + x3) + (w 4)).toNatClampNeg) := ⟨_, rfl⟩
    replace h := h μ23 em23
    have hm23 : xN μ ≤ xN μ23 := by rw [em23]; exact Nat.le_refl _
    rw [← em23]
    refine run_ok (pc' := 11) [(.iinc 3 1, 0, 0, 0), (.goto (-24), 0, 0, 0)] _ _ _ _ (by decide +kernel) ?_
    show G Γ m_MO_eats (d + 1) (0, 0) Q 11 [.ref r0, .ref r1, .int x2, .int (x3 + w 1)] [] μ23
    exact h
/-! FrostBoxModel take(I)I -/
set_option maxRecDepth 100000 in
theorem lk_11_391 : LkV 11 391 m_MO_eats 2 := ⟨lc_MO_eats, lwG_in (List.mem_of_getElem? (i := 1671) rfl) rfl, lwG_in (List.mem_of_getElem? (i := 1673) rfl) rfl, lwG_in (List.mem_of_getElem? (i := 86) rfl) rfl⟩
set_option maxRecDepth 100000 in
theorem B_MO_take_0 {Γ : XG} {d : Nat} {Q : Option Value → XM → Prop} {r0 r0_30 : Nat} {x1 : Int32} {μ : XM} (o_r0_11 : ob μ r0 11) (e_r0_30 : xR μ r0 30 = some r0_30) (h : ∀ μ1, μ1 = sI μ r0 0 (w 0) → Call Γ m_MO_isBox d [.ref r0, .ref r0_30, .int x1] μ1 (KI (fun v2 μ2 => ((v2 = w 0 → Q (some (.int (w (-1)))) μ2) ∧ (¬ v2 = w 0 → Call Γ m_MO_remember d [.ref r0] μ2 (KV (fun μ3 => xR μ3 r0 30 = some r0_30 ∧ Call Γ m_MO_eats d [.ref r0, .ref r0_30, .int x1] μ3 (KI (fun v5 μ5 => Q (some (.int v5)) μ5))))))))) : G Γ m_MO_take (d + 1) (0, 0) Q 0 [.ref r0, .int x1] [] μ := by
  refine run_ok (pc' := 5) [(.aload_n 0, 0, 0, 0), (.iconst 0, 0, 0, 0), (.putfield 109, 11, 0, 0)] _ _ _ _ (by decide +kernel) ?_
  show _ ∧ (_)
  refine ⟨o_r0_11, ?_⟩
  show G Γ m_MO_take (d + 1) (0, 0) Q 5 [.ref r0, .int x1] [] (sI μ r0 0 (w 0))
  obtain ⟨μ1, em1⟩ : ∃ m : XM, m = sI μ r0 0 (w 0) := ⟨_, rfl⟩
  replace h := h μ1 em1
  have hm1 : xN μ ≤ xN μ1 := by rw [em1]; exact Nat.le_refl _
  rw [← em1]
  refine run_ok (pc' := 11) [(.aload_n 0, 0, 0, 0), (.aload_n 0, 0, 0, 0), (.getfield 58, 11, 30, 2), (.iload_n 1, 0, 0, 0)] _ _ _ _ (by decide +kernel) ?_
  show _ ∧ (∃ _, _ ∧ (_))
  refine ⟨((o_r0_11).mono hm1), r0_30, (by rw [em1]; exact e_r0_30), ?_⟩
  show G Γ m_MO_take (d + 1) (0, 0) Q 11 [.ref r0, .int x1] [.int x1, .ref r0_30, .ref r0] μ1
  refine g_invV (M' := m_MO_isBox) (b1 := 0) (b2 := 0) (As := [.ref r0_30, .int x1]) (a := r0) (st := []) lk_11_361 (by decide +kernel) rfl (dk_MO_isBox d) (Nat.le_of_ble_eq_true rfl) (Or.inl ⟨11, ((o_r0_11).mono hm1), rfl⟩) h ?_
  rintro _ μ2 ⟨v2, rfl, h⟩ hn2
  show G Γ m_MO_take (d + 1) (0, 0) Q 14 [.ref r0, .int x1] [.int v2] μ2
  refine g_ifz_ne (pc' := 19) (off := 5) (by decide) (by decide +kernel) (fun hc => ?_) (fun hc => ?_)
  · replace h := h.2 hc
    show G Γ m_MO_take (d + 1) (0, 0) Q 19 [.ref r0, .int x1] [] μ2
    refine run_ok (pc' := 20) [(.aload_n 0, 0, 0, 0)] _ _ _ _ (by decide +kernel) ?_
    show G Γ m_MO_take (d + 1) (0, 0) Q 20 [.ref r0, .int x1] [.ref r0] μ2
    refine g_invV (M' := m_MO_remember) (b1 := 0) (b2 := 0) (As := []) (a := r0) (st := []) lk_11_380 (by decide +kernel) rfl (dk_MO_remember d) (Nat.le_of_ble_eq_true rfl) (Or.inl ⟨11, (((o_r0_11).mono hm1).mono hn2), rfl⟩) h ?_
    rintro _ μ3 ⟨rfl, h⟩ hn3
    show G Γ m_MO_take (d + 1) (0, 0) Q 23 [.ref r0, .int x1] [] μ3
    obtain ⟨ea4, h⟩ := h
    refine run_ok (pc' := 29) [(.aload_n 0, 0, 0, 0), (.aload_n 0, 0, 0, 0), (.getfield 58, 11, 30, 2), (.iload_n 1, 0, 0, 0)] _ _ _ _ (by decide +kernel) ?_
    show _ ∧ (∃ _, _ ∧ (_))
    refine ⟨((((o_r0_11).mono hm1).mono hn2).mono hn3), r0_30, ea4, ?_⟩
    show G Γ m_MO_take (d + 1) (0, 0) Q 29 [.ref r0, .int x1] [.int x1, .ref r0_30, .ref r0] μ3
    refine g_invV (M' := m_MO_eats) (b1 := 0) (b2 := 0) (As := [.ref r0_30, .int x1]) (a := r0) (st := []) lk_11_391 (by decide +kernel) rfl (dk_MO_eats d) (Nat.le_of_ble_eq_true rfl) (Or.inl ⟨11, ((((o_r0_11).mono hm1).mono hn2).mono hn3), rfl⟩) h ?_
    rintro _ μ5 ⟨v5, rfl, h⟩ hn5
    show G Γ m_MO_take (d + 1) (0, 0) Q 32 [.ref r0, .int x1] [.int v5] μ5
    exact g_reti (by decide +kernel) rfl h
  · replace h := h.1 hc
    show G Γ m_MO_take (d + 1) (0, 0) Q 17 [.ref r0, .int x1] [] μ2
    refine run_ok (pc' := 18) [(.iconst (-1), 0, 0, 0)] _ _ _ _ (by decide +kernel) ?_
    show G Γ m_MO_take (d + 1) (0, 0) Q 18 [.ref r0, .int x1] [.int (w (-1))] μ2
    exact g_reti (by decide +kernel) rfl h
/-! FrostBoxModel canLabel([II)Z -/
set_option maxRecDepth 100000 in
theorem B_MO_canLabel_0 {Γ : XG} {d : Nat} {Q : Option Value → XM → Prop} {r0 r1 : Nat} {x2 : Int32} {μ : XM} (o_r0_11 : ob μ r0 11) (h : Call Γ m_MO_isBox d [.ref r0, .ref r1, .int x2] μ (KI (fun v1 μ1 => ((v1 = w 0 → Q (some (.int (w 0))) μ1) ∧ (¬ v1 = w 0 → inb μ1 0 r1 (((w 5) * x2) + (w 3)) ∧ ((xI μ1 r1 (((w 5) * x2) + (w 3)).toNatClampNeg = w 0 → Q (some (.int (w 1))) μ1) ∧ (¬ xI μ1 r1 (((w 5) * x2) + (w 3)).toNatClampNeg = w 0 → Q (some (.int (w 0))) μ1))))))) : G Γ m_MO_canLabel (d + 1) (0, 0) Q 0 [.ref r0, .ref r1, .int x2] [] μ := by
  refine run_ok (pc' := 3) [(.aload_n 0, 0, 0, 0), (.aload_n 1, 0, 0, 0), (.iload_n 2, 0, 0, 0)] _ _ _ _ (by decide +kernel) ?_
  show G Γ m_MO_canLabel (d + 1) (0, 0) Q 3 [.ref r0, .ref r1, .int x2] [.int x2, .ref r1, .ref r0] μ
  refine g_invV (M' := m_MO_isBox) (b1 := 0) (b2 := 0) (As := [.ref r1, .int x2]) (a := r0) (st := []) lk_11_361 (by decide +kernel) rfl (dk_MO_isBox d) (Nat.le_of_ble_eq_true rfl) (Or.inl ⟨11, o_r0_11, rfl⟩) h ?_
  rintro _ μ1 ⟨v1, rfl, h⟩ hn1
  show G Γ m_MO_canLabel (d + 1) (0, 0) Q 6 [.ref r0, .ref r1, .int x2] [.int v1] μ1
  refine g_ifz_eq (pc' := 23) (off := 17) (by decide) (by decide +kernel) (fun hc => ?_) (fun hc => ?_)
  · replace h := h.1 hc
    show G Γ m_MO_canLabel (d + 1) (0, 0) Q 23 [.ref r0, .ref r1, .int x2] [] μ1
    refine run_ok (pc' := 24) [(.iconst 0, 0, 0, 0)] _ _ _ _ (by decide +kernel) ?_
    show G Γ m_MO_canLabel (d + 1) (0, 0) Q 24 [.ref r0, .ref r1, .int x2] [.int (w 0)] μ1
    exact g_retz (by decide +kernel) rfl (Or.inl rfl) h
  · replace h := h.2 hc
    show G Γ m_MO_canLabel (d + 1) (0, 0) Q 9 [.ref r0, .ref r1, .int x2] [] μ1
    obtain ⟨ib2, h⟩ := h
    refine run_ok (pc' := 16) [(.aload_n 1, 0, 0, 0), (.iconst 5, 0, 0, 0), (.iload_n 2, 0, 0, 0), (.imul, 0, 0, 0), (.iconst 3, 0, 0, 0), (.iadd, 0, 0, 0), (.iaload, 0, 0, 0)] _ _ _ _ (by decide +kernel) ?_
    show _ ∧ (_)
    refine ⟨ib2, ?_⟩
    show G Γ m_MO_canLabel (d + 1) (0, 0) Q 16 [.ref r0, .ref r1, .int x2] [.int (xI μ1 r1 (((w 5) * x2) + (w 3)).toNatClampNeg)] μ1
    refine g_ifz_ne (pc' := 23) (off := 7) (by decide) (by decide +kernel) (fun hc => ?_) (fun hc => ?_)
    · replace h := h.2 hc
      show G Γ m_MO_canLabel (d + 1) (0, 0) Q 23 [.ref r0, .ref r1, .int x2] [] μ1
      refine run_ok (pc' := 24) [(.iconst 0, 0, 0, 0)] _ _ _ _ (by decide +kernel) ?_
      show G Γ m_MO_canLabel (d + 1) (0, 0) Q 24 [.ref r0, .ref r1, .int x2] [.int (w 0)] μ1
      exact g_retz (by decide +kernel) rfl (Or.inl rfl) h
    · replace h := h.1 hc
      show G Γ m_MO_canLabel (d + 1) (0, 0) Q 19 [.ref r0, .ref r1, .int x2] [] μ1
      refine run_ok (pc' := 24) [(.iconst 1, 0, 0, 0), (.goto 4, 0, 0, 0)] _ _ _ _ (by decide +kernel) ?_
      show G Γ m_MO_canLabel (d + 1) (0, 0) Q 24 [.ref r0, .ref r1, .int x2] [.int (w 1)] μ1
      exact g_retz (by decide +kernel) rfl (Or.inr rfl) h
/-! FrostBoxModel names([II)V -/
set_option maxRecDepth 100000 in
theorem B_MO_names_0 {Γ : XG} {d : Nat} {Q : Option Value → XM → Prop} {r0 : Nat} {x1 : Int32} {μ : XM}  (h : inS μ 0 r0 (((w 5) * x1) + (w 3)) ∧ ∀ μ2, μ2 = sI μ r0 (((w 5) * x1) + (w 3)).toNatClampNeg (w 1) → inb μ2 0 r0 (w 41) ∧ inS μ2 0 r0 (((w 5) * x1) + (w 4)) ∧ ∀ μ5, μ5 = sI μ2 r0 (((w 5) * x1) + (w 4)).toNatClampNeg (xI μ2 r0 (w 41).toNatClampNeg) → Q none μ5) : G Γ m_MO_names (d + 1) (0, 0) Q 0 [.ref r0, .int x1] [] μ := by
  obtain ⟨is1, h⟩ := h
  refine run_ok (pc' := 8) [(.aload_n 0, 0, 0, 0), (.iconst 5, 0, 0, 0), (.iload_n 1, 0, 0, 0), (.imul, 0, 0, 0), (.iconst 3, 0, 0, 0), (.iadd, 0, 0, 0), (.iconst 1, 0, 0, 0), (.iastore, 0, 0, 0)] _ _ _ _ (by decide +kernel) ?_
  show _ ∧ (_)
  refine ⟨is1, ?_⟩
  show G Γ m_MO_names (d + 1) (0, 0) Q 8 [.ref r0, .int x1] [] (sI μ r0 (((w 5) * x1) + (w 3)).toNatClampNeg (w 1))
  obtain ⟨μ2, em2⟩ : ∃ m : XM, m = sI μ r0 (((w 5) * x1) + (w 3)).toNatClampNeg (w 1) := ⟨_, rfl⟩
  replace h := h μ2 em2
  have hm2 : xN μ ≤ xN μ2 := by rw [em2]; exact Nat.le_refl _
  rw [← em2]
  obtain ⟨ib3, h⟩ := h
  obtain ⟨is4, h⟩ := h
  refine run_ok (pc' := 19) [(.aload_n 0, 0, 0, 0), (.iconst 5, 0, 0, 0), (.iload_n 1, 0, 0, 0), (.imul, 0, 0, 0), (.iconst 4, 0, 0, 0), (.iadd, 0, 0, 0), (.aload_n 0, 0, 0, 0), (.bipush 41, 0, 0, 0), (.iaload, 0, 0, 0), (.iastore, 0, 0, 0)] _ _ _ _ (by decide +kernel) ?_
  show _ ∧ (_ ∧ (_))
  refine ⟨ib3, is4, ?_⟩
  show G Γ m_MO_names (d + 1) (0, 0) Q 19 [.ref r0, .int x1] [] (sI μ2 r0 (((w 5) * x1) + (w 4)).toNatClampNeg (xI μ2 r0 (w 41).toNatClampNeg))
  obtain ⟨μ5, em5⟩ : ∃ m : XM, m = sI μ2 r0 (((w 5) * x1) + (w 4)).toNatClampNeg (xI μ2 r0 (w 41).toNatClampNeg) := ⟨_, rfl⟩
  replace h := h μ5 em5
  have hm5 : xN μ2 ≤ xN μ5 := by rw [em5]; exact Nat.le_refl _
  rw [← em5]
  exact g_retv (by decide +kernel) rfl h
/-! FrostBoxModel label(I)Z -/
set_option maxRecDepth 100000 in
theorem lk_11_397 : LkS 11 397 m_MO_names 2 := ⟨lc_MO_names, lwG_in (List.mem_of_getElem? (i := 1686) rfl) rfl, lwG_in (List.mem_of_getElem? (i := 1687) rfl) rfl⟩
set_option maxRecDepth 100000 in
theorem lk_11_394 : LkV 11 394 m_MO_canLabel 2 := ⟨lc_MO_canLabel, lwG_in (List.mem_of_getElem? (i := 1682) rfl) rfl, lwG_in (List.mem_of_getElem? (i := 1684) rfl) rfl, lwG_in (List.mem_of_getElem? (i := 87) rfl) rfl⟩
set_option maxRecDepth 100000 in
theorem B_MO_label_0 {Γ : XG} {d : Nat} {Q : Option Value → XM → Prop} {r0 r0_30 : Nat} {x1 : Int32} {μ : XM} (o_r0_11 : ob μ r0 11) (e_r0_30 : xR μ r0 30 = some r0_30) (h : ∀ μ1, μ1 = sI μ r0 0 (w 0) → Call Γ m_MO_canLabel d [.ref r0, .ref r0_30, .int x1] μ1 (KI (fun v2 μ2 => ((v2 = w 0 → Q (some (.int (w 0))) μ2) ∧ (¬ v2 = w 0 → Call Γ m_MO_remember d [.ref r0] μ2 (KV (fun μ3 => xR μ3 r0 30 = some r0_30 ∧ Call Γ m_MO_names d [.ref r0_30, .int x1] μ3 (KV (fun μ5 => Q (some (.int (w 1))) μ5))))))))) : G Γ m_MO_label (d + 1) (0, 0) Q 0 [.ref r0, .int x1] [] μ := by
  refine run_ok (pc' := 5) [(.aload_n 0, 0, 0, 0), (.iconst 0, 0, 0, 0), (.putfield 109, 11, 0, 0)] _ _ _ _ (by decide +kernel) ?_
  show _ ∧ (_)
  refine ⟨o_r0_11, ?_⟩
  show G Γ m_MO_label (d + 1) (0, 0) Q 5 [.ref r0, .int x1] [] (sI μ r0 0 (w 0))
  obtain ⟨μ1, em1⟩ : ∃ m : XM, m = sI μ r0 0 (w 0) := ⟨_, rfl⟩
  replace h := h μ1 em1
  have hm1 : xN μ ≤ xN μ1 := by rw [em1]; exact Nat.le_refl _
  rw [← em1]
  refine run_ok (pc' := 11) [(.aload_n 0, 0, 0, 0), (.aload_n 0, 0, 0, 0), (.getfield 58, 11, 30, 2), (.iload_n 1, 0, 0, 0)] _ _ _ _ (by decide +kernel) ?_
  show _ ∧ (∃ _, _ ∧ (_))
  refine ⟨((o_r0_11).mono hm1), r0_30, (by rw [em1]; exact e_r0_30), ?_⟩
  show G Γ m_MO_label (d + 1) (0, 0) Q 11 [.ref r0, .int x1] [.int x1, .ref r0_30, .ref r0] μ1
  refine g_invV (M' := m_MO_canLabel) (b1 := 0) (b2 := 0) (As := [.ref r0_30, .int x1]) (a := r0) (st := []) lk_11_394 (by decide +kernel) rfl (dk_MO_canLabel d) (Nat.le_of_ble_eq_true rfl) (Or.inl ⟨11, ((o_r0_11).mono hm1), rfl⟩) h ?_
  rintro _ μ2 ⟨v2, rfl, h⟩ hn2
  show G Γ m_MO_label (d + 1) (0, 0) Q 14 [.ref r0, .int x1] [.int v2] μ2
  refine g_ifz_ne (pc' := 19) (off := 5) (by decide) (by decide +kernel) (fun hc => ?_) (fun hc => ?_)
  · replace h := h.2 hc
    show G Γ m_MO_label (d + 1) (0, 0) Q 19 [.ref r0, .int x1] [] μ2
    refine run_ok (pc' := 20) [(.aload_n 0, 0, 0, 0)] _ _ _ _ (by decide +kernel) ?_
    show G Γ m_MO_label (d + 1) (0, 0) Q 20 [.ref r0, .int x1] [.ref r0] μ2
    refine g_invV (M' := m_MO_remember) (b1 := 0) (b2 := 0) (As := []) (a := r0) (st := []) lk_11_380 (by decide +kernel) rfl (dk_MO_remember d) (Nat.le_of_ble_eq_true rfl) (Or.inl ⟨11, (((o_r0_11).mono hm1).mono hn2), rfl⟩) h ?_
    rintro _ μ3 ⟨rfl, h⟩ hn3
    show G Γ m_MO_label (d + 1) (0, 0) Q 23 [.ref r0, .int x1] [] μ3
    obtain ⟨ea4, h⟩ := h
    refine run_ok (pc' := 28) [(.aload_n 0, 0, 0, 0), (.getfield 58, 11, 30, 2), (.iload_n 1, 0, 0, 0)] _ _ _ _ (by decide +kernel) ?_
    show _ ∧ (∃ _, _ ∧ (_))
    refine ⟨((((o_r0_11).mono hm1).mono hn2).mono hn3), r0_30, ea4, ?_⟩
    show G Γ m_MO_label (d + 1) (0, 0) Q 28 [.ref r0, .int x1] [.int x1, .ref r0_30] μ3
    refine g_invS (M' := m_MO_names) (b1 := 0) (b2 := 0) (As := [.ref r0_30, .int x1]) (st := []) lk_11_397 (by decide +kernel) rfl (dk_MO_names d) (Nat.le_of_ble_eq_true rfl) h ?_
    rintro _ μ5 ⟨rfl, h⟩ hn5
    show G Γ m_MO_label (d + 1) (0, 0) Q 31 [.ref r0, .int x1] [] μ5
    refine run_ok (pc' := 32) [(.iconst 1, 0, 0, 0)] _ _ _ _ (by decide +kernel) ?_
    show G Γ m_MO_label (d + 1) (0, 0) Q 32 [.ref r0, .int x1] [.int (w 1)] μ5
    exact g_retz (by decide +kernel) rfl (Or.inr rfl) h
  · replace h := h.1 hc
    show G Γ m_MO_label (d + 1) (0, 0) Q 17 [.ref r0, .int x1] [] μ2
    refine run_ok (pc' := 18) [(.iconst 0, 0, 0, 0)] _ _ _ _ (by decide +kernel) ?_
    show G Γ m_MO_label (d + 1) (0, 0) Q 18 [.ref r0, .int x1] [.int (w 0)] μ2
    exact g_retz (by decide +kernel) rfl (Or.inl rfl) h
/-! FrostBoxModel ages([II)V -/
set_option maxRecDepth 100000 in
theorem B_MO_ages_0 {Γ : XG} {d : Nat} {Q : Option Value → XM → Prop} {r0 r1 : Nat} {x2 : Int32} {μ : XM}  (h : G Γ m_MO_ages (d + 1) (0, 0) Q 2 [jk, .ref r1, .int x2, .int (w 0)] [] μ) : G Γ m_MO_ages (d + 1) (0, 0) Q 0 [.ref r0, .ref r1, .int x2] [] μ := by
  refine run_ok (pc' := 2) [(.iconst 0, 0, 0, 0), (.istore_n 3, 0, 0, 0)] _ _ _ _ (by decide +kernel) ?_
  show G Γ m_MO_ages (d + 1) (0, 0) Q 2 [.ref r0, .ref r1, .int x2, .int (w 0)] [] μ
  exact g_wk (ls' := [jk, .ref r1, .int x2, .int (w 0)]) ⟨Or.inl rfl, Or.inr rfl, Or.inr rfl, Or.inr rfl, trivial⟩ h
set_option maxRecDepth 100000 in
theorem B_MO_ages_2 {Γ : XG} {d : Nat} {Q : Option Value → XM → Prop} {r1 : Nat} {x2 x3 : Int32} {μ : XM}  (h : inb μ 0 r1 (w 40) ∧ ((x3 < xI μ r1 (w 40).toNatClampNeg → inb μ 0 r1 (((w 5) * x3) + (w 2)) ∧ inS μ 0 r1 (((w 5) * x3) + (w 2)) ∧ ∀ μ4, μ4 = sI μ r1 (((w 5) * x3) + (w 2)).toNatClampNeg (jmin (w 99) ((xI μ r1 (((w 5) * x3) + (w 2)).toNatClampNeg) + x2)) → G Γ m_MO_ages (d + 1) (0, 0) Q 2 [jk, .ref r1, .int x2, .int (x3 + w 1)] [] μ4) ∧ (¬ x3 < xI μ r1 (w 40).toNatClampNeg → Q none μ))) : G Γ m_MO_ages (d + 1) (0, 0) Q 2 [jk, .ref r1, .int x2, .int x3] [] μ := by
  obtain ⟨ib1, h⟩ := h
  refine run_ok (pc' := 7) [(.iload_n 3, 0, 0, 0), (.aload_n 1, 0, 0, 0), (.bipush 40, 0, 0, 0), (.iaload, 0, 0, 0)] _ _ _ _ (by decide +kernel) ?_
  show _ ∧ (_)
  refine ⟨ib1, ?_⟩
  show G Γ m_MO_ages (d + 1) (0, 0) Q 7 [jk, .ref r1, .int x2, .int x3] [.int (xI μ r1 (w 40).toNatClampNeg), .int x3] μ
  refine g_icmp_ge (pc' := 37) (off := 30) (by decide) (by decide +kernel) (fun hc => ?_) (fun hc => ?_)
  · replace h := h.2 hc
    show G Γ m_MO_ages (d + 1) (0, 0) Q 37 [jk, .ref r1, .int x2, .int x3] [] μ
    exact g_retv (by decide +kernel) rfl h
  · replace h := h.1 hc
    show G Γ m_MO_ages (d + 1) (0, 0) Q 10 [jk, .ref r1, .int x2, .int x3] [] μ
    obtain ⟨ib2, h⟩ := h
    refine run_ok (pc' := 27) [(.aload_n 1, 0, 0, 0), (.iconst 5, 0, 0, 0), (.iload_n 3, 0, 0, 0), (.imul, 0, 0, 0), (.iconst 2, 0, 0, 0), (.iadd, 0, 0, 0), (.bipush 99, 0, 0, 0), (.aload_n 1, 0, 0, 0), (.iconst 5, 0, 0, 0), (.iload_n 3, 0, 0, 0), (.imul, 0, 0, 0), (.iconst 2, 0, 0, 0), (.iadd, 0, 0, 0), (.iaload, 0, 0, 0), (.iload_n 2, 0, 0, 0), (.iadd, 0, 0, 0)] _ _ _ _ (by decide +kernel) ?_
    show _ ∧ (_)
    refine ⟨ib2, ?_⟩
    show G Γ m_MO_ages (d + 1) (0, 0) Q 27 [jk, .ref r1, .int x2, .int x3] [.int ((xI μ r1 (((w 5) * x3) + (w 2)).toNatClampNeg) + x2), .int (w 99), .int (((w 5) * x3) + (w 2)), .ref r1] μ
    refine g_minI (i := 330) lm_11_330 (Nat.le_of_ble_eq_true rfl) (by decide +kernel) ?_
    show G Γ m_MO_ages (d + 1) (0, 0) Q 30 [jk, .ref r1, .int x2, .int x3] [.int (jmin (w 99) ((xI μ r1 (((w 5) * x3) + (w 2)).toNatClampNeg) + x2)), .int (((w 5) * x3) + (w 2)), .ref r1] μ
    obtain ⟨is3, h⟩ := h
    refine run_ok (pc' := 31) [(.iastore, 0, 0, 0)] _ _ _ _ (by decide +kernel) ?_
    show _ ∧ (_)
    refine ⟨is3, ?_⟩
    show G Γ m_MO_ages (d + 1) (0, 0) Q 31 [jk, .ref r1, .int x2, .int x3] [] (sI μ r1 (((w 5) * x3) + (w 2)).toNatClampNeg (jmin (w 99) ((xI μ r1 (((w 5) * x3) + (w 2)).toNatClampNeg) + x2)))
    obtain ⟨μ4, em4⟩ : ∃ m : XM, m = sI μ r1 (((w 5) * x3) + (w 2)).toNatClampNeg (jmin (w 99) ((xI μ r1 (((w 5) * x3) + (w 2)).toNatClampNeg) + x2)) := ⟨_, rfl⟩
    replace h := h μ4 em4
    have hm4 : xN μ ≤ xN μ4 := by rw [em4]; exact Nat.le_refl _
    rw [← em4]
    refine run_ok (pc' := 2) [(.iinc 3 1, 0, 0, 0), (.goto (-32), 0, 0, 0)] _ _ _ _ (by decide +kernel) ?_
    show G Γ m_MO_ages (d + 1) (0, 0) Q 2 [jk, .ref r1, .int x2, .int (x3 + w 1)] [] μ4
    exact h
/-! FrostBoxModel goMonth([I)V -/
set_option maxRecDepth 100000 in
theorem lk_11_400 : LkV 11 400 m_MO_ages 2 := ⟨lc_MO_ages, lwG_in (List.mem_of_getElem? (i := 1701) rfl) rfl, lwG_in (List.mem_of_getElem? (i := 1703) rfl) rfl, lwG_in (List.mem_of_getElem? (i := 90) rfl) rfl⟩
set_option maxRecDepth 100000 in
theorem B_MO_goMonth_0 {Γ : XG} {d : Nat} {Q : Option Value → XM → Prop} {r0 r1 : Nat} {μ : XM} (o_r0_11 : ob μ r0 11) (h : Call Γ m_MO_ages d [.ref r0, .ref r1, .int (w 1)] μ (KV (fun μ1 => inb μ1 0 r1 (w 41) ∧ inS μ1 0 r1 (w 41) ∧ ∀ μ4, μ4 = sI μ1 r1 (w 41).toNatClampNeg ((xI μ1 r1 (w 41).toNatClampNeg) + (w 1)) → G Γ m_MO_goMonth (d + 1) (0, 0) Q 16 [.ref r0, .ref r1, .int (w 0)] [] μ4))) : G Γ m_MO_goMonth (d + 1) (0, 0) Q 0 [.ref r0, .ref r1] [] μ := by
  refine run_ok (pc' := 3) [(.aload_n 0, 0, 0, 0), (.aload_n 1, 0, 0, 0), (.iconst 1, 0, 0, 0)] _ _ _ _ (by decide +kernel) ?_
  show G Γ m_MO_goMonth (d + 1) (0, 0) Q 3 [.ref r0, .ref r1] [.int (w 1), .ref r1, .ref r0] μ
  refine g_invV (M' := m_MO_ages) (b1 := 0) (b2 := 0) (As := [.ref r1, .int (w 1)]) (a := r0) (st := []) lk_11_400 (by decide +kernel) rfl (dk_MO_ages d) (Nat.le_of_ble_eq_true rfl) (Or.inl ⟨11, o_r0_11, rfl⟩) h ?_
  rintro _ μ1 ⟨rfl, h⟩ hn1
  show G Γ m_MO_goMonth (d + 1) (0, 0) Q 6 [.ref r0, .ref r1] [] μ1
  obtain ⟨ib2, h⟩ := h
  obtain ⟨is3, h⟩ := h
  refine run_ok (pc' := 14) [(.aload_n 1, 0, 0, 0), (.bipush 41, 0, 0, 0), (.dup2, 0, 0, 0), (.iaload, 0, 0, 0), (.iconst 1, 0, 0, 0), (.iadd, 0, 0, 0), (.iastore, 0, 0, 0)] _ _ _ _ (by decide +kernel) ?_
  show _ ∧ (_ ∧ (_))
  refine ⟨ib2, is3, ?_⟩
  show G Γ m_MO_goMonth (d + 1) (0, 0) Q 14 [.ref r0, .ref r1] [] (sI μ1 r1 (w 41).toNatClampNeg ((xI μ1 r1 (w 41).toNatClampNeg) + (w 1)))
  obtain ⟨μ4, em4⟩ : ∃ m : XM, m = sI μ1 r1 (w 41).toNatClampNeg ((xI μ1 r1 (w 41).toNatClampNeg) + (w 1)) := ⟨_, rfl⟩
  replace h := h μ4 em4
  have hm4 : xN μ1 ≤ xN μ4 := by rw [em4]; exact Nat.le_refl _
  rw [← em4]
  refine run_ok (pc' := 16) [(.iconst 0, 0, 0, 0), (.istore_n 2, 0, 0, 0)] _ _ _ _ (by decide +kernel) ?_
  show G Γ m_MO_goMonth (d + 1) (0, 0) Q 16 [.ref r0, .ref r1, .int (w 0)] [] μ4
  exact h
set_option maxRecDepth 100000 in
theorem B_MO_goMonth_16 {Γ : XG} {d : Nat} {Q : Option Value → XM → Prop} {r0 r1 r0_18 : Nat} {x2 : Int32} {μ : XM} (o_r0_11 : ob μ r0 11) (e_r0_18 : xR μ r0 18 = some r0_18) (h : inb μ 0 r1 (w 40) ∧ ((x2 < xI μ r1 (w 40).toNatClampNeg → inb μ 0 r1 (w 41) ∧ inb μ 0 r1 (((w 5) * x2) + (w 4)) ∧ inb μ 0 r0_18 (w 2) ∧ (((xI μ r1 (w 41).toNatClampNeg) - (xI μ r1 (((w 5) * x2) + (w 4)).toNatClampNeg) < xI μ r0_18 (w 2).toNatClampNeg → G Γ m_MO_goMonth (d + 1) (0, 0) Q 16 [.ref r0, .ref r1, .int (x2 + w 1)] [] μ) ∧ (¬ (xI μ r1 (w 41).toNatClampNeg) - (xI μ r1 (((w 5) * x2) + (w 4)).toNatClampNeg) < xI μ r0_18 (w 2).toNatClampNeg → inS μ 0 r1 (((w 5) * x2) + (w 3)) ∧ ∀ μ6, μ6 = sI μ r1 (((w 5) * x2) + (w 3)).toNatClampNeg (w 0) → G Γ m_MO_goMonth (d + 1) (0, 0) Q 16 [.ref r0, .ref r1, .int (x2 + w 1)] [] μ6))) ∧ (¬ x2 < xI μ r1 (w 40).toNatClampNeg → Q none μ))) : G Γ m_MO_goMonth (d + 1) (0, 0) Q 16 [.ref r0, .ref r1, .int x2] [] μ := by
  obtain ⟨ib1, h⟩ := h
  refine run_ok (pc' := 21) [(.iload_n 2, 0, 0, 0), (.aload_n 1, 0, 0, 0), (.bipush 40, 0, 0, 0), (.iaload, 0, 0, 0)] _ _ _ _ (by decide +kernel) ?_
  show _ ∧ (_)
  refine ⟨ib1, ?_⟩
  show G Γ m_MO_goMonth (d + 1) (0, 0) Q 21 [.ref r0, .ref r1, .int x2] [.int (xI μ r1 (w 40).toNatClampNeg), .int x2] μ
  refine g_icmp_ge (pc' := 59) (off := 38) (by decide) (by decide +kernel) (fun hc => ?_) (fun hc => ?_)
  · replace h := h.2 hc
    show G Γ m_MO_goMonth (d + 1) (0, 0) Q 59 [.ref r0, .ref r1, .int x2] [] μ
    exact g_retv (by decide +kernel) rfl h
  · replace h := h.1 hc
    show G Γ m_MO_goMonth (d + 1) (0, 0) Q 24 [.ref r0, .ref r1, .int x2] [] μ
    obtain ⟨ib2, h⟩ := h
    obtain ⟨ib3, h⟩ := h
    obtain ⟨ib4, h⟩ := h
    refine run_ok (pc' := 42) [(.aload_n 1, 0, 0, 0), (.bipush 41, 0, 0, 0), (.iaload, 0, 0, 0), (.aload_n 1, 0, 0, 0), (.iconst 5, 0, 0, 0), (.iload_n 2, 0, 0, 0), (.imul, 0, 0, 0), (.iconst 4, 0, 0, 0), (.iadd, 0, 0, 0), (.iaload, 0, 0, 0), (.isub, 0, 0, 0), (.aload_n 0, 0, 0, 0), (.getfield 37, 11, 18, 2), (.iconst 2, 0, 0, 0), (.iaload, 0, 0, 0)] _ _ _ _ (by decide +kernel) ?_
    show _ ∧ (_ ∧ (_ ∧ (∃ _, _ ∧ (_ ∧ (_)))))
    refine ⟨ib2, ib3, o_r0_11, r0_18, e_r0_18, ib4, ?_⟩
    show G Γ m_MO_goMonth (d + 1) (0, 0) Q 42 [.ref r0, .ref r1, .int x2] [.int (xI μ r0_18 (w 2).toNatClampNeg), .int ((xI μ r1 (w 41).toNatClampNeg) - (xI μ r1 (((w 5) * x2) + (w 4)).toNatClampNeg))] μ
    refine g_icmp_lt (pc' := 53) (off := 11) (by decide) (by decide +kernel) (fun hc => ?_) (fun hc => ?_)
    · replace h := h.1 hc
      show G Γ m_MO_goMonth (d + 1) (0, 0) Q 53 [.ref r0, .ref r1, .int x2] [] μ
      refine run_ok (pc' := 16) [(.iinc 2 1, 0, 0, 0), (.goto (-40), 0, 0, 0)] _ _ _ _ (by decide +kernel) ?_
      show G Γ m_MO_goMonth (d + 1) (0, 0) Q 16 [.ref r0, .ref r1, .int (x2 + w 1)] [] μ
      exact h
    · replace h := h.2 hc
      show G Γ m_MO_goMonth (d + 1) (0, 0) Q 45 [.ref r0, .ref r1, .int x2] [] μ
      obtain ⟨is5, h⟩ := h
      refine run_ok (pc' := 53) [(.aload_n 1, 0, 0, 0), (.iconst 5, 0, 0, 0), (.iload_n 2, 0, 0, 0), (.imul, 0, 0, 0), (.iconst 3, 0, 0, 0), (.iadd, 0, 0, 0), (.iconst 0, 0, 0, 0), (.iastore, 0, 0, 0)] _ _ _ _ (by decide +kernel) ?_
      show _ ∧ (_)
      refine ⟨is5, ?_⟩
      show G Γ m_MO_goMonth (d + 1) (0, 0) Q 53 [.ref r0, .ref r1, .int x2] [] (sI μ r1 (((w 5) * x2) + (w 3)).toNatClampNeg (w 0))
      obtain ⟨μ6, em6⟩ : ∃ m : XM, m = sI μ r1 (((w 5) * x2) + (w 3)).toNatClampNeg (w 0) := ⟨_, rfl⟩
      replace h := h μ6 em6
      have hm6 : xN μ ≤ xN μ6 := by rw [em6]; exact Nat.le_refl _
      rw [← em6]
      refine run_ok (pc' := 16) [(.iinc 2 1, 0, 0, 0), (.goto (-40), 0, 0, 0)] _ _ _ _ (by decide +kernel) ?_
      show G Γ m_MO_goMonth (d + 1) (0, 0) Q 16 [.ref r0, .ref r1, .int (x2 + w 1)] [] μ6
      exact h
/-! FrostBoxModel mayPass([III)Z -/
set_option maxRecDepth 100000 in
theorem B_MO_mayPass_0 {Γ : XG} {d : Nat} {Q : Option Value → XM → Prop} {r0 r1 : Nat} {x2 x3 : Int32} {μ : XM} (o_r0_11 : ob μ r0 11) (h : ((w 0 < xI μ r0 25 → Call Γ m_MO_isIn d [.long (x2.toInt64), .long (wl 1), .long (x3.toInt64)] μ (KI (fun v1 μ1 => ((v1 = w 0 → Q (some (.int (w 0))) μ1) ∧ (¬ v1 = w 0 → inb μ1 0 r1 (w 41) ∧ ((w 999 < (xI μ1 r1 (w 41).toNatClampNeg) + x2 → Q (some (.int (w 0))) μ1) ∧ (¬ w 999 < (xI μ1 r1 (w 41).toNatClampNeg) + x2 → Q (some (.int (w 1))) μ1))))))) ∧ (¬ w 0 < xI μ r0 25 → Q (some (.int (w 0))) μ))) : G Γ m_MO_mayPass (d + 1) (0, 0) Q 0 [.ref r0, .ref r1, .int x2, .int x3] [] μ := by
  refine run_ok (pc' := 4) [(.aload_n 0, 0, 0, 0), (.getfield 307, 11, 25, 0)] _ _ _ _ (by decide +kernel) ?_
  show _ ∧ (_)
  refine ⟨o_r0_11, ?_⟩
  show G Γ m_MO_mayPass (d + 1) (0, 0) Q 4 [.ref r0, .ref r1, .int x2, .int x3] [.int (xI μ r0 25)] μ
  refine g_ifz_le (pc' := 34) (off := 30) (by decide) (by decide +kernel) (fun hc => ?_) (fun hc => ?_)
  · replace h := h.2 hc
    show G Γ m_MO_mayPass (d + 1) (0, 0) Q 34 [.ref r0, .ref r1, .int x2, .int x3] [] μ
    refine run_ok (pc' := 35) [(.iconst 0, 0, 0, 0)] _ _ _ _ (by decide +kernel) ?_
    show G Γ m_MO_mayPass (d + 1) (0, 0) Q 35 [.ref r0, .ref r1, .int x2, .int x3] [.int (w 0)] μ
    exact g_retz (by decide +kernel) rfl (Or.inl rfl) h
  · replace h := h.1 hc
    show G Γ m_MO_mayPass (d + 1) (0, 0) Q 7 [.ref r0, .ref r1, .int x2, .int x3] [] μ
    refine run_ok (pc' := 12) [(.iload_n 2, 0, 0, 0), (.i2l, 0, 0, 0), (.lconst 1, 0, 0, 1), (.iload_n 3, 0, 0, 0), (.i2l, 0, 0, 0)] _ _ _ _ (by decide +kernel) ?_
    show G Γ m_MO_mayPass (d + 1) (0, 0) Q 12 [.ref r0, .ref r1, .int x2, .int x3] [.long (x3.toInt64), .long (wl 1), .long (x2.toInt64)] μ
    refine g_invS (M' := m_MO_isIn) (b1 := 0) (b2 := 0) (As := [.long (x2.toInt64), .long (wl 1), .long (x3.toInt64)]) (st := []) lk_11_230 (by decide +kernel) rfl (dk_MO_isIn d) (Nat.le_of_ble_eq_true rfl) h ?_
    rintro _ μ1 ⟨v1, rfl, h⟩ hn1
    show G Γ m_MO_mayPass (d + 1) (0, 0) Q 15 [.ref r0, .ref r1, .int x2, .int x3] [.int v1] μ1
    refine g_ifz_eq (pc' := 34) (off := 19) (by decide) (by decide +kernel) (fun hc => ?_) (fun hc => ?_)
    · replace h := h.1 hc
      show G Γ m_MO_mayPass (d + 1) (0, 0) Q 34 [.ref r0, .ref r1, .int x2, .int x3] [] μ1
      refine run_ok (pc' := 35) [(.iconst 0, 0, 0, 0)] _ _ _ _ (by decide +kernel) ?_
      show G Γ m_MO_mayPass (d + 1) (0, 0) Q 35 [.ref r0, .ref r1, .int x2, .int x3] [.int (w 0)] μ1
      exact g_retz (by decide +kernel) rfl (Or.inl rfl) h
    · replace h := h.2 hc
      show G Γ m_MO_mayPass (d + 1) (0, 0) Q 18 [.ref r0, .ref r1, .int x2, .int x3] [] μ1
      obtain ⟨ib2, h⟩ := h
      refine run_ok (pc' := 27) [(.aload_n 1, 0, 0, 0), (.bipush 41, 0, 0, 0), (.iaload, 0, 0, 0), (.iload_n 2, 0, 0, 0), (.iadd, 0, 0, 0), (.sipush 999, 0, 0, 0)] _ _ _ _ (by decide +kernel) ?_
      show _ ∧ (_)
      refine ⟨ib2, ?_⟩
      show G Γ m_MO_mayPass (d + 1) (0, 0) Q 27 [.ref r0, .ref r1, .int x2, .int x3] [.int (w 999), .int ((xI μ1 r1 (w 41).toNatClampNeg) + x2)] μ1
      refine g_icmp_gt (pc' := 34) (off := 7) (by decide) (by decide +kernel) (fun hc => ?_) (fun hc => ?_)
      · replace h := h.1 hc
        show G Γ m_MO_mayPass (d + 1) (0, 0) Q 34 [.ref r0, .ref r1, .int x2, .int x3] [] μ1
        refine run_ok (pc' := 35) [(.iconst 0, 0, 0, 0)] _ _ _ _ (by decide +kernel) ?_
        show G Γ m_MO_mayPass (d + 1) (0, 0) Q 35 [.ref r0, .ref r1, .int x2, .int x3] [.int (w 0)] μ1
        exact g_retz (by decide +kernel) rfl (Or.inl rfl) h
      · replace h := h.2 hc
        show G Γ m_MO_mayPass (d + 1) (0, 0) Q 30 [.ref r0, .ref r1, .int x2, .int x3] [] μ1
        refine run_ok (pc' := 35) [(.iconst 1, 0, 0, 0), (.goto 4, 0, 0, 0)] _ _ _ _ (by decide +kernel) ?_
        show G Γ m_MO_mayPass (d + 1) (0, 0) Q 35 [.ref r0, .ref r1, .int x2, .int x3] [.int (w 1)] μ1
        exact g_retz (by decide +kernel) rfl (Or.inr rfl) h
/-! FrostBoxModel months(I)I -/
set_option maxRecDepth 100000 in
theorem lk_11_403 : LkV 11 403 m_MO_mayPass 3 := ⟨lc_MO_mayPass, lwG_in (List.mem_of_getElem? (i := 1693) rfl) rfl, lwG_in (List.mem_of_getElem? (i := 1695) rfl) rfl, lwG_in (List.mem_of_getElem? (i := 88) rfl) rfl⟩
set_option maxRecDepth 100000 in
theorem lk_11_406 : LkV 11 406 m_MO_goMonth 1 := ⟨lc_MO_goMonth, lwG_in (List.mem_of_getElem? (i := 1697) rfl) rfl, lwG_in (List.mem_of_getElem? (i := 1699) rfl) rfl, lwG_in (List.mem_of_getElem? (i := 89) rfl) rfl⟩
set_option maxRecDepth 100000 in
theorem B_MO_months_0 {Γ : XG} {d : Nat} {Q : Option Value → XM → Prop} {r0 r0_30 : Nat} {x1 : Int32} {μ : XM} (o_r0_11 : ob μ r0 11) (e_r0_30 : xR μ r0 30 = some r0_30) (h : ∀ μ1, μ1 = sI μ r0 0 (w 0) → Call Γ m_MO_mayPass d [.ref r0, .ref r0_30, .int x1, .int (w 60)] μ1 (KI (fun v2 μ2 => ((v2 = w 0 → Q (some (.int (w (-1)))) μ2) ∧ (¬ v2 = w 0 → G Γ m_MO_months (d + 1) (0, 0) Q 23 [.ref r0, .int x1, .int (w 0)] [] μ2))))) : G Γ m_MO_months (d + 1) (0, 0) Q 0 [.ref r0, .int x1] [] μ := by
  refine run_ok (pc' := 5) [(.aload_n 0, 0, 0, 0), (.iconst 0, 0, 0, 0), (.putfield 109, 11, 0, 0)] _ _ _ _ (by decide +kernel) ?_
  show _ ∧ (_)
  refine ⟨o_r0_11, ?_⟩
  show G Γ m_MO_months (d + 1) (0, 0) Q 5 [.ref r0, .int x1] [] (sI μ r0 0 (w 0))
  obtain ⟨μ1, em1⟩ : ∃ m : XM, m = sI μ r0 0 (w 0) := ⟨_, rfl⟩
  replace h := h μ1 em1
  have hm1 : xN μ ≤ xN μ1 := by rw [em1]; exact Nat.le_refl _
  rw [← em1]
  refine run_ok (pc' := 13) [(.aload_n 0, 0, 0, 0), (.aload_n 0, 0, 0, 0), (.getfield 58, 11, 30, 2), (.iload_n 1, 0, 0, 0), (.bipush 60, 0, 0, 0)] _ _ _ _ (by decide +kernel) ?_
  show _ ∧ (∃ _, _ ∧ (_))
  refine ⟨((o_r0_11).mono hm1), r0_30, (by rw [em1]; exact e_r0_30), ?_⟩
  show G Γ m_MO_months (d + 1) (0, 0) Q 13 [.ref r0, .int x1] [.int (w 60), .int x1, .ref r0_30, .ref r0] μ1
  refine g_invV (M' := m_MO_mayPass) (b1 := 0) (b2 := 0) (As := [.ref r0_30, .int x1, .int (w 60)]) (a := r0) (st := []) lk_11_403 (by decide +kernel) rfl (dk_MO_mayPass d) (Nat.le_of_ble_eq_true rfl) (Or.inl ⟨11, ((o_r0_11).mono hm1), rfl⟩) h ?_
  rintro _ μ2 ⟨v2, rfl, h⟩ hn2
  show G Γ m_MO_months (d + 1) (0, 0) Q 16 [.ref r0, .int x1] [.int v2] μ2
  refine g_ifz_ne (pc' := 21) (off := 5) (by decide) (by decide +kernel) (fun hc => ?_) (fun hc => ?_)
  · replace h := h.2 hc
    show G Γ m_MO_months (d + 1) (0, 0) Q 21 [.ref r0, .int x1] [] μ2
    refine run_ok (pc' := 23) [(.iconst 0, 0, 0, 0), (.istore_n 2, 0, 0, 0)] _ _ _ _ (by decide +kernel) ?_
    show G Γ m_MO_months (d + 1) (0, 0) Q 23 [.ref r0, .int x1, .int (w 0)] [] μ2
    exact h
  · replace h := h.1 hc
    show G Γ m_MO_months (d + 1) (0, 0) Q 19 [.ref r0, .int x1] [] μ2
    refine run_ok (pc' := 20) [(.iconst (-1), 0, 0, 0)] _ _ _ _ (by decide +kernel) ?_
    show G Γ m_MO_months (d + 1) (0, 0) Q 20 [.ref r0, .int x1] [.int (w (-1))] μ2
    exact g_reti (by decide +kernel) rfl h
set_option maxRecDepth 100000 in
theorem B_MO_months_23 {Γ : XG} {d : Nat} {Q : Option Value → XM → Prop} {r0 r0_30 : Nat} {x1 x2 : Int32} {μ : XM} (o_r0_11 : ob μ r0 11) (e_r0_30 : xR μ r0 30 = some r0_30) (h : ((x2 < x1 → Call Γ m_MO_remember d [.ref r0] μ (KV (fun μ2 => ∃ a3, xR μ2 r0 30 = some a3 ∧ Call Γ m_MO_goMonth d [.ref r0, .ref a3] μ2 (KV (fun μ4 => G Γ m_MO_months (d + 1) (0, 0) Q 23 [.ref r0, .int x1, .int (x2 + w 1)] [] μ4))))) ∧ (¬ x2 < x1 → inb μ 0 r0_30 (w 41) ∧ Q (some (.int (xI μ r0_30 (w 41).toNatClampNeg))) μ))) : G Γ m_MO_months (d + 1) (0, 0) Q 23 [.ref r0, .int x1, .int x2] [] μ := by
  refine run_ok (pc' := 25) [(.iload_n 2, 0, 0, 0), (.iload_n 1, 0, 0, 0)] _ _ _ _ (by decide +kernel) ?_
  show G Γ m_MO_months (d + 1) (0, 0) Q 25 [.ref r0, .int x1, .int x2] [.int x1, .int x2] μ
  refine g_icmp_ge (pc' := 46) (off := 21) (by decide) (by decide +kernel) (fun hc => ?_) (fun hc => ?_)
  · replace h := h.2 hc
    show G Γ m_MO_months (d + 1) (0, 0) Q 46 [.ref r0, .int x1, .int x2] [] μ
    obtain ⟨ib1, h⟩ := h
    refine run_ok (pc' := 53) [(.aload_n 0, 0, 0, 0), (.getfield 58, 11, 30, 2), (.bipush 41, 0, 0, 0), (.iaload, 0, 0, 0)] _ _ _ _ (by decide +kernel) ?_
    show _ ∧ (∃ _, _ ∧ (_ ∧ (_)))
    refine ⟨o_r0_11, r0_30, e_r0_30, ib1, ?_⟩
    show G Γ m_MO_months (d + 1) (0, 0) Q 53 [.ref r0, .int x1, .int x2] [.int (xI μ r0_30 (w 41).toNatClampNeg)] μ
    exact g_reti (by decide +kernel) rfl h
  · replace h := h.1 hc
    show G Γ m_MO_months (d + 1) (0, 0) Q 28 [.ref r0, .int x1, .int x2] [] μ
    refine run_ok (pc' := 29) [(.aload_n 0, 0, 0, 0)] _ _ _ _ (by decide +kernel) ?_
    show G Γ m_MO_months (d + 1) (0, 0) Q 29 [.ref r0, .int x1, .int x2] [.ref r0] μ
    refine g_invV (M' := m_MO_remember) (b1 := 0) (b2 := 0) (As := []) (a := r0) (st := []) lk_11_380 (by decide +kernel) rfl (dk_MO_remember d) (Nat.le_of_ble_eq_true rfl) (Or.inl ⟨11, o_r0_11, rfl⟩) h ?_
    rintro _ μ2 ⟨rfl, h⟩ hn2
    show G Γ m_MO_months (d + 1) (0, 0) Q 32 [.ref r0, .int x1, .int x2] [] μ2
    obtain ⟨a3, ea3, h⟩ := h
    refine run_ok (pc' := 37) [(.aload_n 0, 0, 0, 0), (.aload_n 0, 0, 0, 0), (.getfield 58, 11, 30, 2)] _ _ _ _ (by decide +kernel) ?_
    show _ ∧ (∃ _, _ ∧ (_))
    refine ⟨((o_r0_11).mono hn2), a3, ea3, ?_⟩
    show G Γ m_MO_months (d + 1) (0, 0) Q 37 [.ref r0, .int x1, .int x2] [.ref a3, .ref r0] μ2
    refine g_invV (M' := m_MO_goMonth) (b1 := 0) (b2 := 0) (As := [.ref a3]) (a := r0) (st := []) lk_11_406 (by decide +kernel) rfl (dk_MO_goMonth d) (Nat.le_of_ble_eq_true rfl) (Or.inl ⟨11, ((o_r0_11).mono hn2), rfl⟩) h ?_
    rintro _ μ4 ⟨rfl, h⟩ hn4
    show G Γ m_MO_months (d + 1) (0, 0) Q 40 [.ref r0, .int x1, .int x2] [] μ4
    refine run_ok (pc' := 23) [(.iinc 2 1, 0, 0, 0), (.goto (-20), 0, 0, 0)] _ _ _ _ (by decide +kernel) ?_
    show G Γ m_MO_months (d + 1) (0, 0) Q 23 [.ref r0, .int x1, .int (x2 + w 1)] [] μ4
    exact h
/-! FrostBoxModel moreThanBorne(II)I -/
set_option maxRecDepth 100000 in
theorem B_MO_moreThanBorne_0 {Γ : XG} {d : Nat} {Q : Option Value → XM → Prop} {r0 r0_18 : Nat} {x1 x2 : Int32} {μ : XM} (o_r0_11 : ob μ r0 11) (e_r0_18 : xR μ r0 18 = some r0_18) (h : inb μ 0 r0_18 (w 1) ∧ inb μ 0 r0_18 (w 0) ∧ ¬ (xI μ r0_18 (w 0).toNatClampNeg) = 0 ∧ Q (some (.int (jmax (w 0) (x2 - (((xI μ r0_18 (w 1).toNatClampNeg) * x1) / (xI μ r0_18 (w 0).toNatClampNeg)))))) μ) : G Γ m_MO_moreThanBorne (d + 1) (0, 0) Q 0 [.ref r0, .int x1, .int x2] [] μ := by
  obtain ⟨ib1, h⟩ := h
  obtain ⟨ib2, h⟩ := h
  obtain ⟨nz3, h⟩ := h
  refine run_ok (pc' := 18) [(.iconst 0, 0, 0, 0), (.iload_n 2, 0, 0, 0), (.aload_n 0, 0, 0, 0), (.getfield 37, 11, 18, 2), (.iconst 1, 0, 0, 0), (.iaload, 0, 0, 0), (.iload_n 1, 0, 0, 0), (.imul, 0, 0, 0), (.aload_n 0, 0, 0, 0), (.getfield 37, 11, 18, 2), (.iconst 0, 0, 0, 0), (.iaload, 0, 0, 0), (.idiv, 0, 0, 0), (.isub, 0, 0, 0)] _ _ _ _ (by decide +kernel) ?_
  show _ ∧ (∃ _, _ ∧ (_ ∧ (_ ∧ (∃ _, _ ∧ (_ ∧ (_ ∧ (_)))))))
  refine ⟨o_r0_11, r0_18, e_r0_18, ib1, o_r0_11, r0_18, e_r0_18, ib2, nz3, ?_⟩
  show G Γ m_MO_moreThanBorne (d + 1) (0, 0) Q 18 [.ref r0, .int x1, .int x2] [.int (x2 - (((xI μ r0_18 (w 1).toNatClampNeg) * x1) / (xI μ r0_18 (w 0).toNatClampNeg))), .int (w 0)] μ
  refine g_maxI (i := 325) lm_11_325 (Nat.le_of_ble_eq_true rfl) (by decide +kernel) ?_
  show G Γ m_MO_moreThanBorne (d + 1) (0, 0) Q 21 [.ref r0, .int x1, .int x2] [.int (jmax (w 0) (x2 - (((xI μ r0_18 (w 1).toNatClampNeg) * x1) / (xI μ r0_18 (w 0).toNatClampNeg))))] μ
  exact g_reti (by decide +kernel) rfl h
/-! FrostBoxModel isHours(I)Z -/
set_option maxRecDepth 100000 in
theorem B_MO_isHours_0 {Γ : XG} {d : Nat} {Q : Option Value → XM → Prop} {r0 : Nat} {x1 : Int32} {μ : XM} (o_r0_11 : ob μ r0 11) (h : ((w 0 < xI μ r0 25 → Call Γ m_MO_isIn d [.long (x1.toInt64), .long (wl 1), .long (wl 99)] μ (KI (fun v1 μ1 => ((v1 = w 0 → Q (some (.int (w 0))) μ1) ∧ (¬ v1 = w 0 → Q (some (.int (w 1))) μ1))))) ∧ (¬ w 0 < xI μ r0 25 → Q (some (.int (w 0))) μ))) : G Γ m_MO_isHours (d + 1) (0, 0) Q 0 [.ref r0, .int x1] [] μ := by
  refine run_ok (pc' := 4) [(.aload_n 0, 0, 0, 0), (.getfield 307, 11, 25, 0)] _ _ _ _ (by decide +kernel) ?_
  show _ ∧ (_)
  refine ⟨o_r0_11, ?_⟩
  show G Γ m_MO_isHours (d + 1) (0, 0) Q 4 [.ref r0, .int x1] [.int (xI μ r0 25)] μ
  refine g_ifz_le (pc' := 23) (off := 19) (by decide) (by decide +kernel) (fun hc => ?_) (fun hc => ?_)
  · replace h := h.2 hc
    show G Γ m_MO_isHours (d + 1) (0, 0) Q 23 [.ref r0, .int x1] [] μ
    refine run_ok (pc' := 24) [(.iconst 0, 0, 0, 0)] _ _ _ _ (by decide +kernel) ?_
    show G Γ m_MO_isHours (d + 1) (0, 0) Q 24 [.ref r0, .int x1] [.int (w 0)] μ
    exact g_retz (by decide +kernel) rfl (Or.inl rfl) h
  · replace h := h.1 hc
    show G Γ m_MO_isHours (d + 1) (0, 0) Q 7 [.ref r0, .int x1] [] μ
    refine run_ok (pc' := 13) [(.iload_n 1, 0, 0, 0), (.i2l, 0, 0, 0), (.lconst 1, 0, 0, 1), (.ldc2_w 410, 0, 0, 99)] _ _ _ _ (by decide +kernel) ?_
    show G Γ m_MO_isHours (d + 1) (0, 0) Q 13 [.ref r0, .int x1] [.long (wl 99), .long (wl 1), .long (x1.toInt64)] μ
    refine g_invS (M' := m_MO_isIn) (b1 := 0) (b2 := 0) (As := [.long (x1.toInt64), .long (wl 1), .long (wl 99)]) (st := []) lk_11_230 (by decide +kernel) rfl (dk_MO_isIn d) (Nat.le_of_ble_eq_true rfl) h ?_
    rintro _ μ1 ⟨v1, rfl, h⟩ hn1
    show G Γ m_MO_isHours (d + 1) (0, 0) Q 16 [.ref r0, .int x1] [.int v1] μ1
    refine g_ifz_eq (pc' := 23) (off := 7) (by decide) (by decide +kernel) (fun hc => ?_) (fun hc => ?_)
    · replace h := h.1 hc
      show G Γ m_MO_isHours (d + 1) (0, 0) Q 23 [.ref r0, .int x1] [] μ1
      refine run_ok (pc' := 24) [(.iconst 0, 0, 0, 0)] _ _ _ _ (by decide +kernel) ?_
      show G Γ m_MO_isHours (d + 1) (0, 0) Q 24 [.ref r0, .int x1] [.int (w 0)] μ1
      exact g_retz (by decide +kernel) rfl (Or.inl rfl) h
    · replace h := h.2 hc
      show G Γ m_MO_isHours (d + 1) (0, 0) Q 19 [.ref r0, .int x1] [] μ1
      refine run_ok (pc' := 24) [(.iconst 1, 0, 0, 0), (.goto 4, 0, 0, 0)] _ _ _ _ (by decide +kernel) ?_
      show G Γ m_MO_isHours (d + 1) (0, 0) Q 24 [.ref r0, .int x1] [.int (w 1)] μ1
      exact g_retz (by decide +kernel) rfl (Or.inr rfl) h
/-! FrostBoxModel off(I)I -/
set_option maxRecDepth 100000 in
theorem lk_11_415 : LkV 11 415 m_MO_moreThanBorne 2 := ⟨lc_MO_moreThanBorne, lwG_in (List.mem_of_getElem? (i := 1714) rfl) rfl, lwG_in (List.mem_of_getElem? (i := 1716) rfl) rfl, lwG_in (List.mem_of_getElem? (i := 92) rfl) rfl⟩
set_option maxRecDepth 100000 in
theorem lk_11_412 : LkV 11 412 m_MO_isHours 1 := ⟨lc_MO_isHours, lwG_in (List.mem_of_getElem? (i := 1709) rfl) rfl, lwG_in (List.mem_of_getElem? (i := 1711) rfl) rfl, lwG_in (List.mem_of_getElem? (i := 91) rfl) rfl⟩
set_option maxRecDepth 100000 in
theorem B_MO_off_0 {Γ : XG} {d : Nat} {Q : Option Value → XM → Prop} {r0 : Nat} {x1 : Int32} {μ : XM} (o_r0_11 : ob μ r0 11) (h : ∀ μ1, μ1 = sI μ r0 0 (w 0) → Call Γ m_MO_isHours d [.ref r0, .int x1] μ1 (KI (fun v2 μ2 => ((v2 = w 0 → Q (some (.int (w (-1)))) μ2) ∧ (¬ v2 = w 0 → Call Γ m_MO_remember d [.ref r0] μ2 (KV (fun μ3 => ∃ a4, xR μ3 r0 30 = some a4 ∧ Call Γ m_MO_sumIn d [.ref r0, .ref a4] μ3 (KI (fun v5 μ5 => Call Γ m_MO_moreThanBorne d [.ref r0, .int v5, .int x1] μ5 (KI (fun v6 μ6 => xR μ6 r0 30 = some a4 ∧ Call Γ m_MO_ages d [.ref r0, .ref a4, .int v6] μ6 (KV (fun μ8 => Q (some (.int v6)) μ8))))))))))))) : G Γ m_MO_off (d + 1) (0, 0) Q 0 [.ref r0, .int x1] [] μ := by
  refine run_ok (pc' := 5) [(.aload_n 0, 0, 0, 0), (.iconst 0, 0, 0, 0), (.putfield 109, 11, 0, 0)] _ _ _ _ (by decide +kernel) ?_
  show _ ∧ (_)
  refine ⟨o_r0_11, ?_⟩
  show G Γ m_MO_off (d + 1) (0, 0) Q 5 [.ref r0, .int x1] [] (sI μ r0 0 (w 0))
  obtain ⟨μ1, em1⟩ : ∃ m : XM, m = sI μ r0 0 (w 0) := ⟨_, rfl⟩
  replace h := h μ1 em1
  have hm1 : xN μ ≤ xN μ1 := by rw [em1]; exact Nat.le_refl _
  rw [← em1]
  refine run_ok (pc' := 7) [(.aload_n 0, 0, 0, 0), (.iload_n 1, 0, 0, 0)] _ _ _ _ (by decide +kernel) ?_
  show G Γ m_MO_off (d + 1) (0, 0) Q 7 [.ref r0, .int x1] [.int x1, .ref r0] μ1
  refine g_invV (M' := m_MO_isHours) (b1 := 0) (b2 := 0) (As := [.int x1]) (a := r0) (st := []) lk_11_412 (by decide +kernel) rfl (dk_MO_isHours d) (Nat.le_of_ble_eq_true rfl) (Or.inl ⟨11, ((o_r0_11).mono hm1), rfl⟩) h ?_
  rintro _ μ2 ⟨v2, rfl, h⟩ hn2
  show G Γ m_MO_off (d + 1) (0, 0) Q 10 [.ref r0, .int x1] [.int v2] μ2
  refine g_ifz_ne (pc' := 15) (off := 5) (by decide) (by decide +kernel) (fun hc => ?_) (fun hc => ?_)
  · replace h := h.2 hc
    show G Γ m_MO_off (d + 1) (0, 0) Q 15 [.ref r0, .int x1] [] μ2
    refine run_ok (pc' := 16) [(.aload_n 0, 0, 0, 0)] _ _ _ _ (by decide +kernel) ?_
    show G Γ m_MO_off (d + 1) (0, 0) Q 16 [.ref r0, .int x1] [.ref r0] μ2
    refine g_invV (M' := m_MO_remember) (b1 := 0) (b2 := 0) (As := []) (a := r0) (st := []) lk_11_380 (by decide +kernel) rfl (dk_MO_remember d) (Nat.le_of_ble_eq_true rfl) (Or.inl ⟨11, (((o_r0_11).mono hm1).mono hn2), rfl⟩) h ?_
    rintro _ μ3 ⟨rfl, h⟩ hn3
    show G Γ m_MO_off (d + 1) (0, 0) Q 19 [.ref r0, .int x1] [] μ3
    obtain ⟨a4, ea4, h⟩ := h
    refine run_ok (pc' := 25) [(.aload_n 0, 0, 0, 0), (.aload_n 0, 0, 0, 0), (.aload_n 0, 0, 0, 0), (.getfield 58, 11, 30, 2)] _ _ _ _ (by decide +kernel) ?_
    show _ ∧ (∃ _, _ ∧ (_))
    refine ⟨((((o_r0_11).mono hm1).mono hn2).mono hn3), a4, ea4, ?_⟩
    show G Γ m_MO_off (d + 1) (0, 0) Q 25 [.ref r0, .int x1] [.ref a4, .ref r0, .ref r0] μ3
    refine g_invV (M' := m_MO_sumIn) (b1 := 0) (b2 := 0) (As := [.ref a4]) (a := r0) (st := [.ref r0]) lk_11_372 (by decide +kernel) rfl (dk_MO_sumIn d) (Nat.le_of_ble_eq_true rfl) (Or.inl ⟨11, ((((o_r0_11).mono hm1).mono hn2).mono hn3), rfl⟩) h ?_
    rintro _ μ5 ⟨v5, rfl, h⟩ hn5
    show G Γ m_MO_off (d + 1) (0, 0) Q 28 [.ref r0, .int x1] [.int v5, .ref r0] μ5
    refine run_ok (pc' := 29) [(.iload_n 1, 0, 0, 0)] _ _ _ _ (by decide +kernel) ?_
    show G Γ m_MO_off (d + 1) (0, 0) Q 29 [.ref r0, .int x1] [.int x1, .int v5, .ref r0] μ5
    refine g_invV (M' := m_MO_moreThanBorne) (b1 := 0) (b2 := 0) (As := [.int v5, .int x1]) (a := r0) (st := []) lk_11_415 (by decide +kernel) rfl (dk_MO_moreThanBorne d) (Nat.le_of_ble_eq_true rfl) (Or.inl ⟨11, (((((o_r0_11).mono hm1).mono hn2).mono hn3).mono hn5), rfl⟩) h ?_
    rintro _ μ6 ⟨v6, rfl, h⟩ hn6
    show G Γ m_MO_off (d + 1) (0, 0) Q 32 [.ref r0, .int x1] [.int v6] μ6
    obtain ⟨ea7, h⟩ := h
    refine run_ok (pc' := 39) [(.istore_n 2, 0, 0, 0), (.aload_n 0, 0, 0, 0), (.aload_n 0, 0, 0, 0), (.getfield 58, 11, 30, 2), (.iload_n 2, 0, 0, 0)] _ _ _ _ (by decide +kernel) ?_
    show _ ∧ (∃ _, _ ∧ (_))
    refine ⟨((((((o_r0_11).mono hm1).mono hn2).mono hn3).mono hn5).mono hn6), a4, ea7, ?_⟩
    show G Γ m_MO_off (d + 1) (0, 0) Q 39 [.ref r0, .int x1, .int v6] [.int v6, .ref a4, .ref r0] μ6
    refine g_invV (M' := m_MO_ages) (b1 := 0) (b2 := 0) (As := [.ref a4, .int v6]) (a := r0) (st := []) lk_11_400 (by decide +kernel) rfl (dk_MO_ages d) (Nat.le_of_ble_eq_true rfl) (Or.inl ⟨11, ((((((o_r0_11).mono hm1).mono hn2).mono hn3).mono hn5).mono hn6), rfl⟩) h ?_
    rintro _ μ8 ⟨rfl, h⟩ hn8
    show G Γ m_MO_off (d + 1) (0, 0) Q 42 [.ref r0, .int x1, .int v6] [] μ8
    refine run_ok (pc' := 43) [(.iload_n 2, 0, 0, 0)] _ _ _ _ (by decide +kernel) ?_
    show G Γ m_MO_off (d + 1) (0, 0) Q 43 [.ref r0, .int x1, .int v6] [.int v6] μ8
    exact g_reti (by decide +kernel) rfl h
  · replace h := h.1 hc
    show G Γ m_MO_off (d + 1) (0, 0) Q 13 [.ref r0, .int x1] [] μ2
    refine run_ok (pc' := 14) [(.iconst (-1), 0, 0, 0)] _ _ _ _ (by decide +kernel) ?_
    show G Γ m_MO_off (d + 1) (0, 0) Q 14 [.ref r0, .int x1] [.int (w (-1))] μ2
    exact g_reti (by decide +kernel) rfl h
/-! FrostBoxModel draw(I)I -/
set_option maxRecDepth 100000 in
theorem B_MO_draw_0 {Γ : XG} {d : Nat} {Q : Option Value → XM → Prop} {r0 : Nat} {x1 : Int32} {μ : XM} (o_r0_11 : ob μ r0 11) (h : ∀ μ1, μ1 = sL μ r0 38 (((xL μ r0 38) * (wl 6364136223846793005)) + (wl 1442695040888963407)) → ¬ (x1.toInt64) = 0 ∧ Q (some (.int (((((xL μ1 r0 38).toUInt64 >>> ((w 33).toInt64.toUInt64 &&& Int64.toUInt64 63)).toInt64) - (((xL μ1 r0 38).toUInt64 >>> ((w 33).toInt64.toUInt64 &&& Int64.toUInt64 63)).toInt64) / (x1.toInt64) * (x1.toInt64)).toInt32))) μ1) : G Γ m_MO_draw (d + 1) (0, 0) Q 0 [.ref r0, .int x1] [] μ := by
  refine run_ok (pc' := 16) [(.aload_n 0, 0, 0, 0), (.aload_n 0, 0, 0, 0), (.getfield 418, 11, 38, 1), (.ldc2_w 422, 0, 0, 6364136223846793005), (.lmul, 0, 0, 0), (.ldc2_w 424, 0, 0, 1442695040888963407), (.ladd, 0, 0, 0), (.putfield 418, 11, 38, 1)] _ _ _ _ (by decide +kernel) ?_
  show _ ∧ (_ ∧ (_ ∧ (_)))
  refine ⟨o_r0_11, o_r0_11, rfl, ?_⟩
  show G Γ m_MO_draw (d + 1) (0, 0) Q 16 [.ref r0, .int x1] [] (sL μ r0 38 (((xL μ r0 38) * (wl 6364136223846793005)) + (wl 1442695040888963407)))
  obtain ⟨μ1, em1⟩ : ∃ m : XM, m = sL μ r0 38 (((xL μ r0 38) * (wl 6364136223846793005)) + (wl 1442695040888963407)) := ⟨_, rfl⟩
  replace h := h μ1 em1
  have hm1 : xN μ ≤ xN μ1 := by rw [em1]; exact Nat.le_refl _
  rw [← em1]
  obtain ⟨nz2, h⟩ := h
  refine run_ok (pc' := 27) [(.aload_n 0, 0, 0, 0), (.getfield 418, 11, 38, 1), (.bipush 33, 0, 0, 0), (.lushr, 0, 0, 0), (.iload_n 1, 0, 0, 0), (.i2l, 0, 0, 0), (.lrem, 0, 0, 0), (.l2i, 0, 0, 0)] _ _ _ _ (by decide +kernel) ?_
  show _ ∧ (_ ∧ (_))
  refine ⟨((o_r0_11).mono hm1), nz2, ?_⟩
  show G Γ m_MO_draw (d + 1) (0, 0) Q 27 [.ref r0, .int x1] [.int (((((xL μ1 r0 38).toUInt64 >>> ((w 33).toInt64.toUInt64 &&& Int64.toUInt64 63)).toInt64) - (((xL μ1 r0 38).toUInt64 >>> ((w 33).toInt64.toUInt64 &&& Int64.toUInt64 63)).toInt64) / (x1.toInt64) * (x1.toInt64)).toInt32)] μ1
  exact g_reti (by decide +kernel) rfl h
/-! FrostBoxModel years(IJ)I -/
set_option maxRecDepth 100000 in
theorem lk_11_426 : LkV 11 426 m_MO_draw 1 := ⟨lc_MO_draw, lwG_in (List.mem_of_getElem? (i := 1722) rfl) rfl, lwG_in (List.mem_of_getElem? (i := 1724) rfl) rfl, lwG_in (List.mem_of_getElem? (i := 93) rfl) rfl⟩
set_option maxRecDepth 100000 in
theorem B_MO_years_0 {Γ : XG} {d : Nat} {Q : Option Value → XM → Prop} {r0 r0_30 : Nat} {x1 : Int32} {y2 : Int64} {μ : XM} (o_r0_11 : ob μ r0 11) (e_r0_30 : xR μ r0 30 = some r0_30) (h : ∀ μ1, μ1 = sI μ r0 0 (w 0) → Call Γ m_MO_mayPass d [.ref r0, .ref r0_30, .int x1, .int (w 60)] μ1 (KI (fun v2 μ2 => ((v2 = w 0 → Q (some (.int (w (-1)))) μ2) ∧ (¬ v2 = w 0 → ∀ μ3, μ3 = sL μ2 r0 38 y2 → G Γ m_MO_years (d + 1) (0, 0) Q 29 [.ref r0, .int x1, jk, jk, .int (w 0)] [] μ3))))) : G Γ m_MO_years (d + 1) (0, 0) Q 0 [.ref r0, .int x1, .long y2, jk] [] μ := by
  refine run_ok (pc' := 5) [(.aload_n 0, 0, 0, 0), (.iconst 0, 0, 0, 0), (.putfield 109, 11, 0, 0)] _ _ _ _ (by decide +kernel) ?_
  show _ ∧ (_)
  refine ⟨o_r0_11, ?_⟩
  show G Γ m_MO_years (d + 1) (0, 0) Q 5 [.ref r0, .int x1, .long y2, jk] [] (sI μ r0 0 (w 0))
  obtain ⟨μ1, em1⟩ : ∃ m : XM, m = sI μ r0 0 (w 0) := ⟨_, rfl⟩
  replace h := h μ1 em1
  have hm1 : xN μ ≤ xN μ1 := by rw [em1]; exact Nat.le_refl _
  rw [← em1]
  refine run_ok (pc' := 13) [(.aload_n 0, 0, 0, 0), (.aload_n 0, 0, 0, 0), (.getfield 58, 11, 30, 2), (.iload_n 1, 0, 0, 0), (.bipush 60, 0, 0, 0)] _ _ _ _ (by decide +kernel) ?_
  show _ ∧ (∃ _, _ ∧ (_))
  refine ⟨((o_r0_11).mono hm1), r0_30, (by rw [em1]; exact e_r0_30), ?_⟩
  show G Γ m_MO_years (d + 1) (0, 0) Q 13 [.ref r0, .int x1, .long y2, jk] [.int (w 60), .int x1, .ref r0_30, .ref r0] μ1
  refine g_invV (M' := m_MO_mayPass) (b1 := 0) (b2 := 0) (As := [.ref r0_30, .int x1, .int (w 60)]) (a := r0) (st := []) lk_11_403 (by decide +kernel) rfl (dk_MO_mayPass d) (Nat.le_of_ble_eq_true rfl) (Or.inl ⟨11, ((o_r0_11).mono hm1), rfl⟩) h ?_
  rintro _ μ2 ⟨v2, rfl, h⟩ hn2
  show G Γ m_MO_years (d + 1) (0, 0) Q 16 [.ref r0, .int x1, .long y2, jk] [.int v2] μ2
  refine g_ifz_ne (pc' := 21) (off := 5) (by decide) (by decide +kernel) (fun hc => ?_) (fun hc => ?_)
  · replace h := h.2 hc
    show G Γ m_MO_years (d + 1) (0, 0) Q 21 [.ref r0, .int x1, .long y2, jk] [] μ2
    refine run_ok (pc' := 26) [(.aload_n 0, 0, 0, 0), (.lload_n 2, 0, 0, 0), (.putfield 418, 11, 38, 1)] _ _ _ _ (by decide +kernel) ?_
    show _ ∧ (_ ∧ (_))
    refine ⟨(((o_r0_11).mono hm1).mono hn2), rfl, ?_⟩
    show G Γ m_MO_years (d + 1) (0, 0) Q 26 [.ref r0, .int x1, .long y2, jk] [] (sL μ2 r0 38 y2)
    obtain ⟨μ3, em3⟩ : ∃ m : XM, m = sL μ2 r0 38 y2 := ⟨_, rfl⟩
    replace h := h μ3 em3
    have hm3 : xN μ2 ≤ xN μ3 := by rw [em3]; exact Nat.le_refl _
    rw [← em3]
    refine run_ok (pc' := 29) [(.iconst 0, 0, 0, 0), (.istore 4, 0, 0, 0)] _ _ _ _ (by decide +kernel) ?_
    show G Γ m_MO_years (d + 1) (0, 0) Q 29 [.ref r0, .int x1, .long y2, jk, .int (w 0)] [] μ3
    exact g_wk (ls' := [.ref r0, .int x1, jk, jk, .int (w 0)]) ⟨Or.inr rfl, Or.inr rfl, Or.inl rfl, Or.inl rfl, Or.inr rfl, trivial⟩ h
  · replace h := h.1 hc
    show G Γ m_MO_years (d + 1) (0, 0) Q 19 [.ref r0, .int x1, .long y2, jk] [] μ2
    refine run_ok (pc' := 20) [(.iconst (-1), 0, 0, 0)] _ _ _ _ (by decide +kernel) ?_
    show G Γ m_MO_years (d + 1) (0, 0) Q 20 [.ref r0, .int x1, .long y2, jk] [.int (w (-1))] μ2
    exact g_reti (by decide +kernel) rfl h
set_option maxRecDepth 100000 in
theorem B_MO_years_29 {Γ : XG} {d : Nat} {Q : Option Value → XM → Prop} {r0 r0_30 : Nat} {x1 x4 : Int32} {μ : XM} (o_r0_11 : ob μ r0 11) (e_r0_30 : xR μ r0 30 = some r0_30) (h : ((x4 < x1 → Call Γ m_MO_remember d [.ref r0] μ (KV (fun μ2 => Call Γ m_MO_draw d [.ref r0, .int (xI μ2 r0 25)] μ2 (KI (fun v3 μ3 => Call Γ m_MO_draw d [.ref r0, .int (w 9)] μ3 (KI (fun v4 μ4 => Call Γ m_MO_draw d [.ref r0, .int (w 10)] μ4 (KI (fun v5 μ5 => ((v5 < xI μ5 r0 33 → G Γ m_MO_years (d + 1) (0, 0) Q 77 [.ref r0, .int x1, jk, jk, .int x4, .int v3, .int (v4 + (w 1))] [.int (w 1)] μ5) ∧ (¬ v5 < xI μ5 r0 33 → G Γ m_MO_years (d + 1) (0, 0) Q 77 [.ref r0, .int x1, jk, jk, .int x4, .int v3, .int (v4 + (w 1))] [.int (w 0)] μ5))))))))))) ∧ (¬ x4 < x1 → inb μ 0 r0_30 (w 41) ∧ Q (some (.int (xI μ r0_30 (w 41).toNatClampNeg))) μ))) : G Γ m_MO_years (d + 1) (0, 0) Q 29 [.ref r0, .int x1, jk, jk, .int x4] [] μ := by
  refine run_ok (pc' := 32) [(.iload 4, 0, 0, 0), (.iload_n 1, 0, 0, 0)] _ _ _ _ (by decide +kernel) ?_
  show G Γ m_MO_years (d + 1) (0, 0) Q 32 [.ref r0, .int x1, jk, jk, .int x4] [.int x1, .int x4] μ
  refine g_icmp_ge (pc' := 170) (off := 138) (by decide) (by decide +kernel) (fun hc => ?_) (fun hc => ?_)
  · replace h := h.2 hc
    show G Γ m_MO_years (d + 1) (0, 0) Q 170 [.ref r0, .int x1, jk, jk, .int x4] [] μ
    obtain ⟨ib1, h⟩ := h
    refine run_ok (pc' := 177) [(.aload_n 0, 0, 0, 0), (.getfield 58, 11, 30, 2), (.bipush 41, 0, 0, 0), (.iaload, 0, 0, 0)] _ _ _ _ (by decide +kernel) ?_
    show _ ∧ (∃ _, _ ∧ (_ ∧ (_)))
    refine ⟨o_r0_11, r0_30, e_r0_30, ib1, ?_⟩
    show G Γ m_MO_years (d + 1) (0, 0) Q 177 [.ref r0, .int x1, jk, jk, .int x4] [.int (xI μ r0_30 (w 41).toNatClampNeg)] μ
    exact g_reti (by decide +kernel) rfl h
  · replace h := h.1 hc
    show G Γ m_MO_years (d + 1) (0, 0) Q 35 [.ref r0, .int x1, jk, jk, .int x4] [] μ
    refine run_ok (pc' := 36) [(.aload_n 0, 0, 0, 0)] _ _ _ _ (by decide +kernel) ?_
    show G Γ m_MO_years (d + 1) (0, 0) Q 36 [.ref r0, .int x1, jk, jk, .int x4] [.ref r0] μ
    refine g_invV (M' := m_MO_remember) (b1 := 0) (b2 := 0) (As := []) (a := r0) (st := []) lk_11_380 (by decide +kernel) rfl (dk_MO_remember d) (Nat.le_of_ble_eq_true rfl) (Or.inl ⟨11, o_r0_11, rfl⟩) h ?_
    rintro _ μ2 ⟨rfl, h⟩ hn2
    show G Γ m_MO_years (d + 1) (0, 0) Q 39 [.ref r0, .int x1, jk, jk, .int x4] [] μ2
    refine run_ok (pc' := 44) [(.aload_n 0, 0, 0, 0), (.aload_n 0, 0, 0, 0), (.getfield 307, 11, 25, 0)] _ _ _ _ (by decide +kernel) ?_
    show _ ∧ (_)
    refine ⟨((o_r0_11).mono hn2), ?_⟩
    show G Γ m_MO_years (d + 1) (0, 0) Q 44 [.ref r0, .int x1, jk, jk, .int x4] [.int (xI μ2 r0 25), .ref r0] μ2
    refine g_invV (M' := m_MO_draw) (b1 := 0) (b2 := 0) (As := [.int (xI μ2 r0 25)]) (a := r0) (st := []) lk_11_426 (by decide +kernel) rfl (dk_MO_draw d) (Nat.le_of_ble_eq_true rfl) (Or.inl ⟨11, ((o_r0_11).mono hn2), rfl⟩) h ?_
    rintro _ μ3 ⟨v3, rfl, h⟩ hn3
    show G Γ m_MO_years (d + 1) (0, 0) Q 47 [.ref r0, .int x1, jk, jk, .int x4] [.int v3] μ3
    refine run_ok (pc' := 52) [(.istore 5, 0, 0, 0), (.aload_n 0, 0, 0, 0), (.bipush 9, 0, 0, 0)] _ _ _ _ (by decide +kernel) ?_
    show G Γ m_MO_years (d + 1) (0, 0) Q 52 [.ref r0, .int x1, jk, jk, .int x4, .int v3] [.int (w 9), .ref r0] μ3
    refine g_invV (M' := m_MO_draw) (b1 := 0) (b2 := 0) (As := [.int (w 9)]) (a := r0) (st := []) lk_11_426 (by decide +kernel) rfl (dk_MO_draw d) (Nat.le_of_ble_eq_true rfl) (Or.inl ⟨11, (((o_r0_11).mono hn2).mono hn3), rfl⟩) h ?_
    rintro _ μ4 ⟨v4, rfl, h⟩ hn4
    show G Γ m_MO_years (d + 1) (0, 0) Q 55 [.ref r0, .int x1, jk, jk, .int x4, .int v3] [.int v4] μ4
    refine run_ok (pc' := 62) [(.iconst 1, 0, 0, 0), (.iadd, 0, 0, 0), (.istore 6, 0, 0, 0), (.aload_n 0, 0, 0, 0), (.bipush 10, 0, 0, 0)] _ _ _ _ (by decide +kernel) ?_
    show G Γ m_MO_years (d + 1) (0, 0) Q 62 [.ref r0, .int x1, jk, jk, .int x4, .int v3, .int (v4 + (w 1))] [.int (w 10), .ref r0] μ4
    refine g_invV (M' := m_MO_draw) (b1 := 0) (b2 := 0) (As := [.int (w 10)]) (a := r0) (st := []) lk_11_426 (by decide +kernel) rfl (dk_MO_draw d) (Nat.le_of_ble_eq_true rfl) (Or.inl ⟨11, ((((o_r0_11).mono hn2).mono hn3).mono hn4), rfl⟩) h ?_
    rintro _ μ5 ⟨v5, rfl, h⟩ hn5
    show G Γ m_MO_years (d + 1) (0, 0) Q 65 [.ref r0, .int x1, jk, jk, .int x4, .int v3, .int (v4 + (w 1))] [.int v5] μ5
    refine run_ok (pc' := 69) [(.aload_n 0, 0, 0, 0), (.getfield 68, 11, 33, 0)] _ _ _ _ (by decide +kernel) ?_
    show _ ∧ (_)
    refine ⟨(((((o_r0_11).mono hn2).mono hn3).mono hn4).mono hn5), ?_⟩
    show G Γ m_MO_years (d + 1) (0, 0) Q 69 [.ref r0, .int x1, jk, jk, .int x4, .int v3, .int (v4 + (w 1))] [.int (xI μ5 r0 33), .int v5] μ5
    refine g_icmp_ge (pc' := 76) (off := 7) (by decide) (by decide +kernel) (fun hc => ?_) (fun hc => ?_)
    · replace h := h.2 hc
      show G Γ m_MO_years (d + 1) (0, 0) Q 76 [.ref r0, .int x1, jk, jk, .int x4, .int v3, .int (v4 + (w 1))] [] μ5
      refine run_ok (pc' := 77) [(.iconst 0, 0, 0, 0)] _ _ _ _ (by decide +kernel) ?_
      show G Γ m_MO_years (d + 1) (0, 0) Q 77 [.ref r0, .int x1, jk, jk, .int x4, .int v3, .int (v4 + (w 1))] [.int (w 0)] μ5
      exact h
    · replace h := h.1 hc
      show G Γ m_MO_years (d + 1) (0, 0) Q 72 [.ref r0, .int x1, jk, jk, .int x4, .int v3, .int (v4 + (w 1))] [] μ5
      refine run_ok (pc' := 77) [(.iconst 1, 0, 0, 0), (.goto 4, 0, 0, 0)] _ _ _ _ (by decide +kernel) ?_
      show G Γ m_MO_years (d + 1) (0, 0) Q 77 [.ref r0, .int x1, jk, jk, .int x4, .int v3, .int (v4 + (w 1))] [.int (w 1)] μ5
      exact h
set_option maxRecDepth 100000 in
theorem B_MO_years_77 {Γ : XG} {d : Nat} {Q : Option Value → XM → Prop} {r0 r0_30 : Nat} {x1 x4 x5 x6 s0 : Int32} {μ : XM} (o_r0_11 : ob μ r0 11) (e_r0_30 : xR μ r0 30 = some r0_30) (h : Call Γ m_MO_canPut d [.ref r0, .ref r0_30, .int x5, .int x6] μ (KI (fun v1 μ1 => ((v1 = w 0 → Call Γ m_MO_draw d [.ref r0, .int (w 2)] μ1 (KI (fun v2 μ2 => xR μ2 r0 30 = some r0_30 ∧ inb μ2 0 r0_30 (w 40) ∧ ((xI μ2 r0_30 (w 40).toNatClampNeg = w 0 → Call Γ m_MO_goMonth d [.ref r0, .ref r0_30] μ2 (KV (fun μ12 => G Γ m_MO_years (d + 1) (0, 0) Q 29 [.ref r0, .int x1, jk, jk, .int (x4 + w 1)] [] μ12))) ∧ (¬ xI μ2 r0_30 (w 40).toNatClampNeg = w 0 → ((v2 = w 0 → Call Γ m_MO_eats d [.ref r0, .ref r0_30, .int (w 0)] μ2 (KI (fun v9 μ9 => xR μ9 r0 30 = some r0_30 ∧ Call Γ m_MO_goMonth d [.ref r0, .ref r0_30] μ9 (KV (fun μ11 => G Γ m_MO_years (d + 1) (0, 0) Q 29 [.ref r0, .int x1, jk, jk, .int (x4 + w 1)] [] μ11))))) ∧ (¬ v2 = w 0 → inb μ2 0 r0_30 (w 40) ∧ Call Γ m_MO_eats d [.ref r0, .ref r0_30, .int ((xI μ2 r0_30 (w 40).toNatClampNeg) - (w 1))] μ2 (KI (fun v6 μ6 => xR μ6 r0 30 = some r0_30 ∧ Call Γ m_MO_goMonth d [.ref r0, .ref r0_30] μ6 (KV (fun μ8 => G Γ m_MO_years (d + 1) (0, 0) Q 29 [.ref r0, .int x1, jk, jk, .int (x4 + w 1)] [] μ8))))))))))) ∧ (¬ v1 = w 0 → xR μ1 r0 30 = some r0_30 ∧ Call Γ m_MO_puts d [.ref r0_30, .int x5, .int x6, .int s0] μ1 (KV (fun μ14 => Call Γ m_MO_draw d [.ref r0, .int (w 2)] μ14 (KI (fun v15 μ15 => xR μ15 r0 30 = some r0_30 ∧ inb μ15 0 r0_30 (w 40) ∧ ((xI μ15 r0_30 (w 40).toNatClampNeg = w 0 → Call Γ m_MO_goMonth d [.ref r0, .ref r0_30] μ15 (KV (fun μ25 => G Γ m_MO_years (d + 1) (0, 0) Q 29 [.ref r0, .int x1, jk, jk, .int (x4 + w 1)] [] μ25))) ∧ (¬ xI μ15 r0_30 (w 40).toNatClampNeg = w 0 → ((v15 = w 0 → Call Γ m_MO_eats d [.ref r0, .ref r0_30, .int (w 0)] μ15 (KI (fun v22 μ22 => xR μ22 r0 30 = some r0_30 ∧ Call Γ m_MO_goMonth d [.ref r0, .ref r0_30] μ22 (KV (fun μ24 => G Γ m_MO_years (d + 1) (0, 0) Q 29 [.ref r0, .int x1, jk, jk, .int (x4 + w 1)] [] μ24))))) ∧ (¬ v15 = w 0 → inb μ15 0 r0_30 (w 40) ∧ Call Γ m_MO_eats d [.ref r0, .ref r0_30, .int ((xI μ15 r0_30 (w 40).toNatClampNeg) - (w 1))] μ15 (KI (fun v19 μ19 => xR μ19 r0 30 = some r0_30 ∧ Call Γ m_MO_goMonth d [.ref r0, .ref r0_30] μ19 (KV (fun μ21 => G Γ m_MO_years (d + 1) (0, 0) Q 29 [.ref r0, .int x1, jk, jk, .int (x4 + w 1)] [] μ21))))))))))))))))) : G Γ m_MO_years (d + 1) (0, 0) Q 77 [.ref r0, .int x1, jk, jk, .int x4, .int x5, .int x6] [.int s0] μ := by
  refine run_ok (pc' := 88) [(.istore 7, 0, 0, 0), (.aload_n 0, 0, 0, 0), (.aload_n 0, 0, 0, 0), (.getfield 58, 11, 30, 2), (.iload 5, 0, 0, 0), (.iload 6, 0, 0, 0)] _ _ _ _ (by decide +kernel) ?_
  show _ ∧ (∃ _, _ ∧ (_))
  refine ⟨o_r0_11, r0_30, e_r0_30, ?_⟩
  show G Γ m_MO_years (d + 1) (0, 0) Q 88 [.ref r0, .int x1, jk, jk, .int x4, .int x5, .int x6, .int s0] [.int x6, .int x5, .ref r0_30, .ref r0] μ
  refine g_invV (M' := m_MO_canPut) (b1 := 0) (b2 := 0) (As := [.ref r0_30, .int x5, .int x6]) (a := r0) (st := []) lk_11_376 (by decide +kernel) rfl (dk_MO_canPut d) (Nat.le_of_ble_eq_true rfl) (Or.inl ⟨11, o_r0_11, rfl⟩) h ?_
  rintro _ μ1 ⟨v1, rfl, h⟩ hn1
  show G Γ m_MO_years (d + 1) (0, 0) Q 91 [.ref r0, .int x1, jk, jk, .int x4, .int x5, .int x6, .int s0] [.int v1] μ1
  refine g_ifz_eq (pc' := 107) (off := 16) (by decide) (by decide +kernel) (fun hc => ?_) (fun hc => ?_)
  · replace h := h.1 hc
    show G Γ m_MO_years (d + 1) (0, 0) Q 107 [.ref r0, .int x1, jk, jk, .int x4, .int x5, .int x6, .int s0] [] μ1
    refine run_ok (pc' := 109) [(.aload_n 0, 0, 0, 0), (.iconst 2, 0, 0, 0)] _ _ _ _ (by decide +kernel) ?_
    show G Γ m_MO_years (d + 1) (0, 0) Q 109 [.ref r0, .int x1, jk, jk, .int x4, .int x5, .int x6, .int s0] [.int (w 2), .ref r0] μ1
    refine g_invV (M' := m_MO_draw) (b1 := 0) (b2 := 0) (As := [.int (w 2)]) (a := r0) (st := []) lk_11_426 (by decide +kernel) rfl (dk_MO_draw d) (Nat.le_of_ble_eq_true rfl) (Or.inl ⟨11, ((o_r0_11).mono hn1), rfl⟩) h ?_
    rintro _ μ2 ⟨v2, rfl, h⟩ hn2
    show G Γ m_MO_years (d + 1) (0, 0) Q 112 [.ref r0, .int x1, jk, jk, .int x4, .int x5, .int x6, .int s0] [.int v2] μ2
    obtain ⟨ea3, h⟩ := h
    obtain ⟨ib4, h⟩ := h
    refine run_ok (pc' := 121) [(.istore 8, 0, 0, 0), (.aload_n 0, 0, 0, 0), (.getfield 58, 11, 30, 2), (.bipush 40, 0, 0, 0), (.iaload, 0, 0, 0)] _ _ _ _ (by decide +kernel) ?_
    show _ ∧ (∃ _, _ ∧ (_ ∧ (_)))
    refine ⟨(((o_r0_11).mono hn1).mono hn2), r0_30, ea3, ib4, ?_⟩
    show G Γ m_MO_years (d + 1) (0, 0) Q 121 [.ref r0, .int x1, jk, jk, .int x4, .int x5, .int x6, .int s0, .int v2] [.int (xI μ2 r0_30 (w 40).toNatClampNeg)] μ2
    refine g_ifz_ne (pc' := 128) (off := 7) (by decide) (by decide +kernel) (fun hc => ?_) (fun hc => ?_)
    · replace h := h.2 hc
      show G Γ m_MO_years (d + 1) (0, 0) Q 128 [.ref r0, .int x1, jk, jk, .int x4, .int x5, .int x6, .int s0, .int v2] [] μ2
      refine run_ok (pc' := 135) [(.aload_n 0, 0, 0, 0), (.aload_n 0, 0, 0, 0), (.getfield 58, 11, 30, 2), (.iload 8, 0, 0, 0)] _ _ _ _ (by decide +kernel) ?_
      show _ ∧ (∃ _, _ ∧ (_))
      refine ⟨(((o_r0_11).mono hn1).mono hn2), r0_30, ea3, ?_⟩
      show G Γ m_MO_years (d + 1) (0, 0) Q 135 [.ref r0, .int x1, jk, jk, .int x4, .int x5, .int x6, .int s0, .int v2] [.int v2, .ref r0_30, .ref r0] μ2
      refine g_ifz_ne (pc' := 142) (off := 7) (by decide) (by decide +kernel) (fun hc => ?_) (fun hc => ?_)
      · replace h := h.2 hc
        show G Γ m_MO_years (d + 1) (0, 0) Q 142 [.ref r0, .int x1, jk, jk, .int x4, .int x5, .int x6, .int s0, .int v2] [.ref r0_30, .ref r0] μ2
        obtain ⟨ib5, h⟩ := h
        refine run_ok (pc' := 151) [(.aload_n 0, 0, 0, 0), (.getfield 58, 11, 30, 2), (.bipush 40, 0, 0, 0), (.iaload, 0, 0, 0), (.iconst 1, 0, 0, 0), (.isub, 0, 0, 0)] _ _ _ _ (by decide +kernel) ?_
        show _ ∧ (∃ _, _ ∧ (_ ∧ (_)))
        refine ⟨(((o_r0_11).mono hn1).mono hn2), r0_30, ea3, ib5, ?_⟩
        show G Γ m_MO_years (d + 1) (0, 0) Q 151 [.ref r0, .int x1, jk, jk, .int x4, .int x5, .int x6, .int s0, .int v2] [.int ((xI μ2 r0_30 (w 40).toNatClampNeg) - (w 1)), .ref r0_30, .ref r0] μ2
        refine g_invV (M' := m_MO_eats) (b1 := 0) (b2 := 0) (As := [.ref r0_30, .int ((xI μ2 r0_30 (w 40).toNatClampNeg) - (w 1))]) (a := r0) (st := []) lk_11_391 (by decide +kernel) rfl (dk_MO_eats d) (Nat.le_of_ble_eq_true rfl) (Or.inl ⟨11, (((o_r0_11).mono hn1).mono hn2), rfl⟩) h ?_
        rintro _ μ6 ⟨v6, rfl, h⟩ hn6
        show G Γ m_MO_years (d + 1) (0, 0) Q 154 [.ref r0, .int x1, jk, jk, .int x4, .int x5, .int x6, .int s0, .int v2] [.int v6] μ6
        obtain ⟨ea7, h⟩ := h
        refine run_ok (pc' := 161) [(.istore 9, 0, 0, 0), (.aload_n 0, 0, 0, 0), (.aload_n 0, 0, 0, 0), (.getfield 58, 11, 30, 2)] _ _ _ _ (by decide +kernel) ?_
        show _ ∧ (∃ _, _ ∧ (_))
        refine ⟨((((o_r0_11).mono hn1).mono hn2).mono hn6), r0_30, ea7, ?_⟩
        show G Γ m_MO_years (d + 1) (0, 0) Q 161 [.ref r0, .int x1, jk, jk, .int x4, .int x5, .int x6, .int s0, .int v2, .int v6] [.ref r0_30, .ref r0] μ6
        refine g_invV (M' := m_MO_goMonth) (b1 := 0) (b2 := 0) (As := [.ref r0_30]) (a := r0) (st := []) lk_11_406 (by decide +kernel) rfl (dk_MO_goMonth d) (Nat.le_of_ble_eq_true rfl) (Or.inl ⟨11, ((((o_r0_11).mono hn1).mono hn2).mono hn6), rfl⟩) h ?_
        rintro _ μ8 ⟨rfl, h⟩ hn8
        show G Γ m_MO_years (d + 1) (0, 0) Q 164 [.ref r0, .int x1, jk, jk, .int x4, .int x5, .int x6, .int s0, .int v2, .int v6] [] μ8
        refine run_ok (pc' := 29) [(.iinc 4 1, 0, 0, 0), (.goto (-138), 0, 0, 0)] _ _ _ _ (by decide +kernel) ?_
        show G Γ m_MO_years (d + 1) (0, 0) Q 29 [.ref r0, .int x1, jk, jk, .int (x4 + w 1), .int x5, .int x6, .int s0, .int v2, .int v6] [] μ8
        exact g_wk (ls' := [.ref r0, .int x1, jk, jk, .int (x4 + w 1)]) ⟨Or.inr rfl, Or.inr rfl, Or.inl rfl, Or.inl rfl, Or.inr rfl, trivial⟩ h
      · replace h := h.1 hc
        show G Γ m_MO_years (d + 1) (0, 0) Q 138 [.ref r0, .int x1, jk, jk, .int x4, .int x5, .int x6, .int s0, .int v2] [.ref r0_30, .ref r0] μ2
        refine run_ok (pc' := 151) [(.iconst 0, 0, 0, 0), (.goto 12, 0, 0, 0)] _ _ _ _ (by decide +kernel) ?_
        show G Γ m_MO_years (d + 1) (0, 0) Q 151 [.ref r0, .int x1, jk, jk, .int x4, .int x5, .int x6, .int s0, .int v2] [.int (w 0), .ref r0_30, .ref r0] μ2
        refine g_invV (M' := m_MO_eats) (b1 := 0) (b2 := 0) (As := [.ref r0_30, .int (w 0)]) (a := r0) (st := []) lk_11_391 (by decide +kernel) rfl (dk_MO_eats d) (Nat.le_of_ble_eq_true rfl) (Or.inl ⟨11, (((o_r0_11).mono hn1).mono hn2), rfl⟩) h ?_
        rintro _ μ9 ⟨v9, rfl, h⟩ hn9
        show G Γ m_MO_years (d + 1) (0, 0) Q 154 [.ref r0, .int x1, jk, jk, .int x4, .int x5, .int x6, .int s0, .int v2] [.int v9] μ9
        obtain ⟨ea10, h⟩ := h
        refine run_ok (pc' := 161) [(.istore 9, 0, 0, 0), (.aload_n 0, 0, 0, 0), (.aload_n 0, 0, 0, 0), (.getfield 58, 11, 30, 2)] _ _ _ _ (by decide +kernel) ?_
        show _ ∧ (∃ _, _ ∧ (_))
        refine ⟨((((o_r0_11).mono hn1).mono hn2).mono hn9), r0_30, ea10, ?_⟩
        show G Γ m_MO_years (d + 1) (0, 0) Q 161 [.ref r0, .int x1, jk, jk, .int x4, .int x5, .int x6, .int s0, .int v2, .int v9] [.ref r0_30, .ref r0] μ9
        refine g_invV (M' := m_MO_goMonth) (b1 := 0) (b2 := 0) (As := [.ref r0_30]) (a := r0) (st := []) lk_11_406 (by decide +kernel) rfl (dk_MO_goMonth d) (Nat.le_of_ble_eq_true rfl) (Or.inl ⟨11, ((((o_r0_11).mono hn1).mono hn2).mono hn9), rfl⟩) h ?_
        rintro _ μ11 ⟨rfl, h⟩ hn11
        show G Γ m_MO_years (d + 1) (0, 0) Q 164 [.ref r0, .int x1, jk, jk, .int x4, .int x5, .int x6, .int s0, .int v2, .int v9] [] μ11
        refine run_ok (pc' := 29) [(.iinc 4 1, 0, 0, 0), (.goto (-138), 0, 0, 0)] _ _ _ _ (by decide +kernel) ?_
        show G Γ m_MO_years (d + 1) (0, 0) Q 29 [.ref r0, .int x1, jk, jk, .int (x4 + w 1), .int x5, .int x6, .int s0, .int v2, .int v9] [] μ11
        exact g_wk (ls' := [.ref r0, .int x1, jk, jk, .int (x4 + w 1)]) ⟨Or.inr rfl, Or.inr rfl, Or.inl rfl, Or.inl rfl, Or.inr rfl, trivial⟩ h
    · replace h := h.1 hc
      show G Γ m_MO_years (d + 1) (0, 0) Q 124 [.ref r0, .int x1, jk, jk, .int x4, .int x5, .int x6, .int s0, .int v2] [] μ2
      refine run_ok (pc' := 161) [(.iconst 0, 0, 0, 0), (.goto 29, 0, 0, 0), (.istore 9, 0, 0, 0), (.aload_n 0, 0, 0, 0), (.aload_n 0, 0, 0, 0), (.getfield 58, 11, 30, 2)] _ _ _ _ (by decide +kernel) ?_
      show _ ∧ (∃ _, _ ∧ (_))
      refine ⟨(((o_r0_11).mono hn1).mono hn2), r0_30, ea3, ?_⟩
      show G Γ m_MO_years (d + 1) (0, 0) Q 161 [.ref r0, .int x1, jk, jk, .int x4, .int x5, .int x6, .int s0, .int v2, .int (w 0)] [.ref r0_30, .ref r0] μ2
      refine g_invV (M' := m_MO_goMonth) (b1 := 0) (b2 := 0) (As := [.ref r0_30]) (a := r0) (st := []) lk_11_406 (by decide +kernel) rfl (dk_MO_goMonth d) (Nat.le_of_ble_eq_true rfl) (Or.inl ⟨11, (((o_r0_11).mono hn1).mono hn2), rfl⟩) h ?_
      rintro _ μ12 ⟨rfl, h⟩ hn12
      show G Γ m_MO_years (d + 1) (0, 0) Q 164 [.ref r0, .int x1, jk, jk, .int x4, .int x5, .int x6, .int s0, .int v2, .int (w 0)] [] μ12
      refine run_ok (pc' := 29) [(.iinc 4 1, 0, 0, 0), (.goto (-138), 0, 0, 0)] _ _ _ _ (by decide +kernel) ?_
      show G Γ m_MO_years (d + 1) (0, 0) Q 29 [.ref r0, .int x1, jk, jk, .int (x4 + w 1), .int x5, .int x6, .int s0, .int v2, .int (w 0)] [] μ12
      exact g_wk (ls' := [.ref r0, .int x1, jk, jk, .int (x4 + w 1)]) ⟨Or.inr rfl, Or.inr rfl, Or.inl rfl, Or.inl rfl, Or.inr rfl, trivial⟩ h
  · replace h := h.2 hc
    show G Γ m_MO_years (d + 1) (0, 0) Q 94 [.ref r0, .int x1, jk, jk, .int x4, .int x5, .int x6, .int s0] [] μ1
    obtain ⟨ea13, h⟩ := h
    refine run_ok (pc' := 104) [(.aload_n 0, 0, 0, 0), (.getfield 58, 11, 30, 2), (.iload 5, 0, 0, 0), (.iload 6, 0, 0, 0), (.iload 7, 0, 0, 0)] _ _ _ _ (by decide +kernel) ?_
    show _ ∧ (∃ _, _ ∧ (_))
    refine ⟨((o_r0_11).mono hn1), r0_30, ea13, ?_⟩
    show G Γ m_MO_years (d + 1) (0, 0) Q 104 [.ref r0, .int x1, jk, jk, .int x4, .int x5, .int x6, .int s0] [.int s0, .int x6, .int x5, .ref r0_30] μ1
    refine g_invS (M' := m_MO_puts) (b1 := 0) (b2 := 0) (As := [.ref r0_30, .int x5, .int x6, .int s0]) (st := []) lk_11_383 (by decide +kernel) rfl (dk_MO_puts d) (Nat.le_of_ble_eq_true rfl) h ?_
    rintro _ μ14 ⟨rfl, h⟩ hn14
    show G Γ m_MO_years (d + 1) (0, 0) Q 107 [.ref r0, .int x1, jk, jk, .int x4, .int x5, .int x6, .int s0] [] μ14
    refine run_ok (pc' := 109) [(.aload_n 0, 0, 0, 0), (.iconst 2, 0, 0, 0)] _ _ _ _ (by decide +kernel) ?_
    show G Γ m_MO_years (d + 1) (0, 0) Q 109 [.ref r0, .int x1, jk, jk, .int x4, .int x5, .int x6, .int s0] [.int (w 2), .ref r0] μ14
    refine g_invV (M' := m_MO_draw) (b1 := 0) (b2 := 0) (As := [.int (w 2)]) (a := r0) (st := []) lk_11_426 (by decide +kernel) rfl (dk_MO_draw d) (Nat.le_of_ble_eq_true rfl) (Or.inl ⟨11, (((o_r0_11).mono hn1).mono hn14), rfl⟩) h ?_
    rintro _ μ15 ⟨v15, rfl, h⟩ hn15
    show G Γ m_MO_years (d + 1) (0, 0) Q 112 [.ref r0, .int x1, jk, jk, .int x4, .int x5, .int x6, .int s0] [.int v15] μ15
    obtain ⟨ea16, h⟩ := h
    obtain ⟨ib17, h⟩ := h
    refine run_ok (pc' := 121) [(.istore 8, 0, 0, 0), (.aload_n 0, 0, 0, 0), (.getfield 58, 11, 30, 2), (.bipush 40, 0, 0, 0), (.iaload, 0, 0, 0)] _ _ _ _ (by decide +kernel) ?_
    show _ ∧ (∃ _, _ ∧ (_ ∧ (_)))
    refine ⟨((((o_r0_11).mono hn1).mono hn14).mono hn15), r0_30, ea16, ib17, ?_⟩
    show G Γ m_MO_years (d + 1) (0, 0) Q 121 [.ref r0, .int x1, jk, jk, .int x4, .int x5, .int x6, .int s0, .int v15] [.int (xI μ15 r0_30 (w 40).toNatClampNeg)] μ15
    refine g_ifz_ne (pc' := 128) (off := 7) (by decide) (by decide +kernel) (fun hc => ?_) (fun hc => ?_)
    · replace h := h.2 hc
      show G Γ m_MO_years (d + 1) (0, 0) Q 128 [.ref r0, .int x1, jk, jk, .int x4, .int x5, .int x6, .int s0, .int v15] [] μ15
      refine run_ok (pc' := 135) [(.aload_n 0, 0, 0, 0), (.aload_n 0, 0, 0, 0), (.getfield 58, 11, 30, 2), (.iload 8, 0, 0, 0)] _ _ _ _ (by decide +kernel) ?_
      show _ ∧ (∃ _, _ ∧ (_))
      refine ⟨((((o_r0_11).mono hn1).mono hn14).mono hn15), r0_30, ea16, ?_⟩
      show G Γ m_MO_years (d + 1) (0, 0) Q 135 [.ref r0, .int x1, jk, jk, .int x4, .int x5, .int x6, .int s0, .int v15] [.int v15, .ref r0_30, .ref r0] μ15
      refine g_ifz_ne (pc' := 142) (off := 7) (by decide) (by decide +kernel) (fun hc => ?_) (fun hc => ?_)
      · replace h := h.2 hc
        show G Γ m_MO_years (d + 1) (0, 0) Q 142 [.ref r0, .int x1, jk, jk, .int x4, .int x5, .int x6, .int s0, .int v15] [.ref r0_30, .ref r0] μ15
        obtain ⟨ib18, h⟩ := h
        refine run_ok (pc' := 151) [(.aload_n 0, 0, 0, 0), (.getfield 58, 11, 30, 2), (.bipush 40, 0, 0, 0), (.iaload, 0, 0, 0), (.iconst 1, 0, 0, 0), (.isub, 0, 0, 0)] _ _ _ _ (by decide +kernel) ?_
        show _ ∧ (∃ _, _ ∧ (_ ∧ (_)))
        refine ⟨((((o_r0_11).mono hn1).mono hn14).mono hn15), r0_30, ea16, ib18, ?_⟩
        show G Γ m_MO_years (d + 1) (0, 0) Q 151 [.ref r0, .int x1, jk, jk, .int x4, .int x5, .int x6, .int s0, .int v15] [.int ((xI μ15 r0_30 (w 40).toNatClampNeg) - (w 1)), .ref r0_30, .ref r0] μ15
        refine g_invV (M' := m_MO_eats) (b1 := 0) (b2 := 0) (As := [.ref r0_30, .int ((xI μ15 r0_30 (w 40).toNatClampNeg) - (w 1))]) (a := r0) (st := []) lk_11_391 (by decide +kernel) rfl (dk_MO_eats d) (Nat.le_of_ble_eq_true rfl) (Or.inl ⟨11, ((((o_r0_11).mono hn1).mono hn14).mono hn15), rfl⟩) h ?_
        rintro _ μ19 ⟨v19, rfl, h⟩ hn19
        show G Γ m_MO_years (d + 1) (0, 0) Q 154 [.ref r0, .int x1, jk, jk, .int x4, .int x5, .int x6, .int s0, .int v15] [.int v19] μ19
        obtain ⟨ea20, h⟩ := h
        refine run_ok (pc' := 161) [(.istore 9, 0, 0, 0), (.aload_n 0, 0, 0, 0), (.aload_n 0, 0, 0, 0), (.getfield 58, 11, 30, 2)] _ _ _ _ (by decide +kernel) ?_
        show _ ∧ (∃ _, _ ∧ (_))
        refine ⟨(((((o_r0_11).mono hn1).mono hn14).mono hn15).mono hn19), r0_30, ea20, ?_⟩
        show G Γ m_MO_years (d + 1) (0, 0) Q 161 [.ref r0, .int x1, jk, jk, .int x4, .int x5, .int x6, .int s0, .int v15, .int v19] [.ref r0_30, .ref r0] μ19
        refine g_invV (M' := m_MO_goMonth) (b1 := 0) (b2 := 0) (As := [.ref r0_30]) (a := r0) (st := []) lk_11_406 (by decide +kernel) rfl (dk_MO_goMonth d) (Nat.le_of_ble_eq_true rfl) (Or.inl ⟨11, (((((o_r0_11).mono hn1).mono hn14).mono hn15).mono hn19), rfl⟩) h ?_
        rintro _ μ21 ⟨rfl, h⟩ hn21
        show G Γ m_MO_years (d + 1) (0, 0) Q 164 [.ref r0, .int x1, jk, jk, .int x4, .int x5, .int x6, .int s0, .int v15, .int v19] [] μ21
        refine run_ok (pc' := 29) [(.iinc 4 1, 0, 0, 0), (.goto (-138), 0, 0, 0)] _ _ _ _ (by decide +kernel) ?_
        show G Γ m_MO_years (d + 1) (0, 0) Q 29 [.ref r0, .int x1, jk, jk, .int (x4 + w 1), .int x5, .int x6, .int s0, .int v15, .int v19] [] μ21
        exact g_wk (ls' := [.ref r0, .int x1, jk, jk, .int (x4 + w 1)]) ⟨Or.inr rfl, Or.inr rfl, Or.inl rfl, Or.inl rfl, Or.inr rfl, trivial⟩ h
      · replace h := h.1 hc
        show G Γ m_MO_years (d + 1) (0, 0) Q 138 [.ref r0, .int x1, jk, jk, .int x4, .int x5, .int x6, .int s0, .int v15] [.ref r0_30, .ref r0] μ15
        refine run_ok (pc' := 151) [(.iconst 0, 0, 0, 0), (.goto 12, 0, 0, 0)] _ _ _ _ (by decide +kernel) ?_
        show G Γ m_MO_years (d + 1) (0, 0) Q 151 [.ref r0, .int x1, jk, jk, .int x4, .int x5, .int x6, .int s0, .int v15] [.int (w 0), .ref r0_30, .ref r0] μ15
        refine g_invV (M' := m_MO_eats) (b1 := 0) (b2 := 0) (As := [.ref r0_30, .int (w 0)]) (a := r0) (st := []) lk_11_391 (by decide +kernel) rfl (dk_MO_eats d) (Nat.le_of_ble_eq_true rfl) (Or.inl ⟨11, ((((o_r0_11).mono hn1).mono hn14).mono hn15), rfl⟩) h ?_
        rintro _ μ22 ⟨v22, rfl, h⟩ hn22
        show G Γ m_MO_years (d + 1) (0, 0) Q 154 [.ref r0, .int x1, jk, jk, .int x4, .int x5, .int x6, .int s0, .int v15] [.int v22] μ22
        obtain ⟨ea23, h⟩ := h
        refine run_ok (pc' := 161) [(.istore 9, 0, 0, 0), (.aload_n 0, 0, 0, 0), (.aload_n 0, 0, 0, 0), (.getfield 58, 11, 30, 2)] _ _ _ _ (by decide +kernel) ?_
        show _ ∧ (∃ _, _ ∧ (_))
        refine ⟨(((((o_r0_11).mono hn1).mono hn14).mono hn15).mono hn22), r0_30, ea23, ?_⟩
        show G Γ m_MO_years (d + 1) (0, 0) Q 161 [.ref r0, .int x1, jk, jk, .int x4, .int x5, .int x6, .int s0, .int v15, .int v22] [.ref r0_30, .ref r0] μ22
        refine g_invV (M' := m_MO_goMonth) (b1 := 0) (b2 := 0) (As := [.ref r0_30]) (a := r0) (st := []) lk_11_406 (by decide +kernel) rfl (dk_MO_goMonth d) (Nat.le_of_ble_eq_true rfl) (Or.inl ⟨11, (((((o_r0_11).mono hn1).mono hn14).mono hn15).mono hn22), rfl⟩) h ?_
        rintro _ μ24 ⟨rfl, h⟩ hn24
        show G Γ m_MO_years (d + 1) (0, 0) Q 164 [.ref r0, .int x1, jk, jk, .int x4, .int x5, .int x6, .int s0, .int v15, .int v22] [] μ24
        refine run_ok (pc' := 29) [(.iinc 4 1, 0, 0, 0), (.goto (-138), 0, 0, 0)] _ _ _ _ (by decide +kernel) ?_
        show G Γ m_MO_years (d + 1) (0, 0) Q 29 [.ref r0, .int x1, jk, jk, .int (x4 + w 1), .int x5, .int x6, .int s0, .int v15, .int v22] [] μ24
        exact g_wk (ls' := [.ref r0, .int x1, jk, jk, .int (x4 + w 1)]) ⟨Or.inr rfl, Or.inr rfl, Or.inl rfl, Or.inl rfl, Or.inr rfl, trivial⟩ h
    · replace h := h.1 hc
      show G Γ m_MO_years (d + 1) (0, 0) Q 124 [.ref r0, .int x1, jk, jk, .int x4, .int x5, .int x6, .int s0, .int v15] [] μ15
      refine run_ok (pc' := 161) [(.iconst 0, 0, 0, 0), (.goto 29, 0, 0, 0), (.istore 9, 0, 0, 0), (.aload_n 0, 0, 0, 0), (.aload_n 0, 0, 0, 0), (.getfield 58, 11, 30, 2)] _ _ _ _ (by decide +kernel) ?_
      show _ ∧ (∃ _, _ ∧ (_))
      refine ⟨((((o_r0_11).mono hn1).mono hn14).mono hn15), r0_30, ea16, ?_⟩
      show G Γ m_MO_years (d + 1) (0, 0) Q 161 [.ref r0, .int x1, jk, jk, .int x4, .int x5, .int x6, .int s0, .int v15, .int (w 0)] [.ref r0_30, .ref r0] μ15
      refine g_invV (M' := m_MO_goMonth) (b1 := 0) (b2 := 0) (As := [.ref r0_30]) (a := r0) (st := []) lk_11_406 (by decide +kernel) rfl (dk_MO_goMonth d) (Nat.le_of_ble_eq_true rfl) (Or.inl ⟨11, ((((o_r0_11).mono hn1).mono hn14).mono hn15), rfl⟩) h ?_
      rintro _ μ25 ⟨rfl, h⟩ hn25
      show G Γ m_MO_years (d + 1) (0, 0) Q 164 [.ref r0, .int x1, jk, jk, .int x4, .int x5, .int x6, .int s0, .int v15, .int (w 0)] [] μ25
      refine run_ok (pc' := 29) [(.iinc 4 1, 0, 0, 0), (.goto (-138), 0, 0, 0)] _ _ _ _ (by decide +kernel) ?_
      show G Γ m_MO_years (d + 1) (0, 0) Q 29 [.ref r0, .int x1, jk, jk, .int (x4 + w 1), .int x5, .int x6, .int s0, .int v15, .int (w 0)] [] μ25
      exact g_wk (ls' := [.ref r0, .int x1, jk, jk, .int (x4 + w 1)]) ⟨Or.inr rfl, Or.inr rfl, Or.inl rfl, Or.inl rfl, Or.inr rfl, trivial⟩ h
/-! FrostBoxModel undo()I -/
set_option maxRecDepth 100000 in
theorem B_MO_undo_0 {Γ : XG} {d : Nat} {Q : Option Value → XM → Prop} {r0 : Nat} {μ : XM} (o_r0_11 : ob μ r0 11) (h : ∀ μ1, μ1 = sI μ r0 0 (w 0) → ((xI μ1 r0 37 = w 0 → Q (some (.int (w (-1)))) μ1) ∧ (¬ xI μ1 r0 37 = w 0 → ∀ μ2, μ2 = sI μ1 r0 37 ((xI μ1 r0 37) - (w 1)) → G Γ m_MO_undo (d + 1) (0, 0) Q 26 [.ref r0, .int (w 0)] [] μ2))) : G Γ m_MO_undo (d + 1) (0, 0) Q 0 [.ref r0] [] μ := by
  refine run_ok (pc' := 5) [(.aload_n 0, 0, 0, 0), (.iconst 0, 0, 0, 0), (.putfield 109, 11, 0, 0)] _ _ _ _ (by decide +kernel) ?_
  show _ ∧ (_)
  refine ⟨o_r0_11, ?_⟩
  show G Γ m_MO_undo (d + 1) (0, 0) Q 5 [.ref r0] [] (sI μ r0 0 (w 0))
  obtain ⟨μ1, em1⟩ : ∃ m : XM, m = sI μ r0 0 (w 0) := ⟨_, rfl⟩
  replace h := h μ1 em1
  have hm1 : xN μ ≤ xN μ1 := by rw [em1]; exact Nat.le_refl _
  rw [← em1]
  refine run_ok (pc' := 9) [(.aload_n 0, 0, 0, 0), (.getfield 316, 11, 37, 0)] _ _ _ _ (by decide +kernel) ?_
  show _ ∧ (_)
  refine ⟨((o_r0_11).mono hm1), ?_⟩
  show G Γ m_MO_undo (d + 1) (0, 0) Q 9 [.ref r0] [.int (xI μ1 r0 37)] μ1
  refine g_ifz_ne (pc' := 14) (off := 5) (by decide) (by decide +kernel) (fun hc => ?_) (fun hc => ?_)
  · replace h := h.2 hc
    show G Γ m_MO_undo (d + 1) (0, 0) Q 14 [.ref r0] [] μ1
    refine run_ok (pc' := 24) [(.aload_n 0, 0, 0, 0), (.dup, 0, 0, 0), (.getfield 316, 11, 37, 0), (.iconst 1, 0, 0, 0), (.isub, 0, 0, 0), (.putfield 316, 11, 37, 0)] _ _ _ _ (by decide +kernel) ?_
    show _ ∧ (_ ∧ (_))
    refine ⟨((o_r0_11).mono hm1), ((o_r0_11).mono hm1), ?_⟩
    show G Γ m_MO_undo (d + 1) (0, 0) Q 24 [.ref r0] [] (sI μ1 r0 37 ((xI μ1 r0 37) - (w 1)))
    obtain ⟨μ2, em2⟩ : ∃ m : XM, m = sI μ1 r0 37 ((xI μ1 r0 37) - (w 1)) := ⟨_, rfl⟩
    replace h := h μ2 em2
    have hm2 : xN μ1 ≤ xN μ2 := by rw [em2]; exact Nat.le_refl _
    rw [← em2]
    refine run_ok (pc' := 26) [(.iconst 0, 0, 0, 0), (.istore_n 1, 0, 0, 0)] _ _ _ _ (by decide +kernel) ?_
    show G Γ m_MO_undo (d + 1) (0, 0) Q 26 [.ref r0, .int (w 0)] [] μ2
    exact h
  · replace h := h.1 hc
    show G Γ m_MO_undo (d + 1) (0, 0) Q 12 [.ref r0] [] μ1
    refine run_ok (pc' := 13) [(.iconst (-1), 0, 0, 0)] _ _ _ _ (by decide +kernel) ?_
    show G Γ m_MO_undo (d + 1) (0, 0) Q 13 [.ref r0] [.int (w (-1))] μ1
    exact g_reti (by decide +kernel) rfl h
set_option maxRecDepth 100000 in
theorem B_MO_undo_26 {Γ : XG} {d : Nat} {Q : Option Value → XM → Prop} {r0 r0_30 r0_36 : Nat} {x1 : Int32} {μ : XM} (o_r0_11 : ob μ r0 11) (e_r0_30 : xR μ r0 30 = some r0_30) (e_r0_36 : xR μ r0 36 = some r0_36) (h : ((x1 < w 283 → inb μ 0 r0_36 (((w 283) * (xI μ r0 37)) + x1) ∧ inS μ 0 r0_30 x1 ∧ ∀ μ3, μ3 = sI μ r0_30 x1.toNatClampNeg (xI μ r0_36 (((w 283) * (xI μ r0 37)) + x1).toNatClampNeg) → G Γ m_MO_undo (d + 1) (0, 0) Q 26 [.ref r0, .int (x1 + w 1)] [] μ3) ∧ (¬ x1 < w 283 → Q (some (.int (xI μ r0 37))) μ))) : G Γ m_MO_undo (d + 1) (0, 0) Q 26 [.ref r0, .int x1] [] μ := by
  refine run_ok (pc' := 30) [(.iload_n 1, 0, 0, 0), (.sipush 283, 0, 0, 0)] _ _ _ _ (by decide +kernel) ?_
  show G Γ m_MO_undo (d + 1) (0, 0) Q 30 [.ref r0, .int x1] [.int (w 283), .int x1] μ
  refine g_icmp_ge (pc' := 60) (off := 30) (by decide) (by decide +kernel) (fun hc => ?_) (fun hc => ?_)
  · replace h := h.2 hc
    show G Γ m_MO_undo (d + 1) (0, 0) Q 60 [.ref r0, .int x1] [] μ
    refine run_ok (pc' := 64) [(.aload_n 0, 0, 0, 0), (.getfield 316, 11, 37, 0)] _ _ _ _ (by decide +kernel) ?_
    show _ ∧ (_)
    refine ⟨o_r0_11, ?_⟩
    show G Γ m_MO_undo (d + 1) (0, 0) Q 64 [.ref r0, .int x1] [.int (xI μ r0 37)] μ
    exact g_reti (by decide +kernel) rfl h
  · replace h := h.1 hc
    show G Γ m_MO_undo (d + 1) (0, 0) Q 33 [.ref r0, .int x1] [] μ
    obtain ⟨ib1, h⟩ := h
    obtain ⟨is2, h⟩ := h
    refine run_ok (pc' := 54) [(.aload_n 0, 0, 0, 0), (.getfield 58, 11, 30, 2), (.iload_n 1, 0, 0, 0), (.aload_n 0, 0, 0, 0), (.getfield 78, 11, 36, 2), (.sipush 283, 0, 0, 0), (.aload_n 0, 0, 0, 0), (.getfield 316, 11, 37, 0), (.imul, 0, 0, 0), (.iload_n 1, 0, 0, 0), (.iadd, 0, 0, 0), (.iaload, 0, 0, 0), (.iastore, 0, 0, 0)] _ _ _ _ (by decide +kernel) ?_
    show _ ∧ (∃ _, _ ∧ (_ ∧ (∃ _, _ ∧ (_ ∧ (_ ∧ (_ ∧ (_)))))))
    refine ⟨o_r0_11, r0_30, e_r0_30, o_r0_11, r0_36, e_r0_36, o_r0_11, ib1, is2, ?_⟩
    show G Γ m_MO_undo (d + 1) (0, 0) Q 54 [.ref r0, .int x1] [] (sI μ r0_30 x1.toNatClampNeg (xI μ r0_36 (((w 283) * (xI μ r0 37)) + x1).toNatClampNeg))
    obtain ⟨μ3, em3⟩ : ∃ m : XM, m = sI μ r0_30 x1.toNatClampNeg (xI μ r0_36 (((w 283) * (xI μ r0 37)) + x1).toNatClampNeg) := ⟨_, rfl⟩
    replace h := h μ3 em3
    have hm3 : xN μ ≤ xN μ3 := by rw [em3]; exact Nat.le_refl _
    rw [← em3]
    refine run_ok (pc' := 26) [(.iinc 1 1, 0, 0, 0), (.goto (-31), 0, 0, 0)] _ _ _ _ (by decide +kernel) ?_
    show G Γ m_MO_undo (d + 1) (0, 0) Q 26 [.ref r0, .int (x1 + w 1)] [] μ3
    exact h
/-! FrostBoxModel log(II)I -/
set_option maxRecDepth 100000 in
theorem B_MO_log_0 {Γ : XG} {d : Nat} {Q : Option Value → XM → Prop} {r0 r0_30 : Nat} {x1 x2 : Int32} {μ : XM} (o_r0_11 : ob μ r0 11) (e_r0_30 : xR μ r0 30 = some r0_30) (h : ∀ μ1, μ1 = sI μ r0 0 (w 0) → inb μ1 0 r0_30 (w 42) ∧ Call Γ m_MO_isIn d [.long (x1.toInt64), .long (wl 0), .long (((xI μ1 r0_30 (w 42).toNatClampNeg) - (w 1)).toInt64)] μ1 (KI (fun v3 μ3 => ((v3 = w 0 → Q (some (.int (w (-1)))) μ3) ∧ (¬ v3 = w 0 → Call Γ m_MO_isIn d [.long (x2.toInt64), .long (wl 0), .long (wl 3)] μ3 (KI (fun v4 μ4 => ((v4 = w 0 → Q (some (.int (w (-1)))) μ4) ∧ (¬ v4 = w 0 → xR μ4 r0 30 = some r0_30 ∧ inb μ4 0 r0_30 (w 42) ∧ inb μ4 0 r0_30 (((w 43) + ((w 4) * (((xI μ4 r0_30 (w 42).toNatClampNeg) - (w 1)) - x1))) + x2) ∧ Q (some (.int (xI μ4 r0_30 (((w 43) + ((w 4) * (((xI μ4 r0_30 (w 42).toNatClampNeg) - (w 1)) - x1))) + x2).toNatClampNeg))) μ4))))))))) : G Γ m_MO_log (d + 1) (0, 0) Q 0 [.ref r0, .int x1, .int x2] [] μ := by
  refine run_ok (pc' := 5) [(.aload_n 0, 0, 0, 0), (.iconst 0, 0, 0, 0), (.putfield 109, 11, 0, 0)] _ _ _ _ (by decide +kernel) ?_
  show _ ∧ (_)
  refine ⟨o_r0_11, ?_⟩
  show G Γ m_MO_log (d + 1) (0, 0) Q 5 [.ref r0, .int x1, .int x2] [] (sI μ r0 0 (w 0))
  obtain ⟨μ1, em1⟩ : ∃ m : XM, m = sI μ r0 0 (w 0) := ⟨_, rfl⟩
  replace h := h μ1 em1
  have hm1 : xN μ ≤ xN μ1 := by rw [em1]; exact Nat.le_refl _
  rw [← em1]
  obtain ⟨ib2, h⟩ := h
  refine run_ok (pc' := 18) [(.iload_n 1, 0, 0, 0), (.i2l, 0, 0, 0), (.lconst 0, 0, 0, 0), (.aload_n 0, 0, 0, 0), (.getfield 58, 11, 30, 2), (.bipush 42, 0, 0, 0), (.iaload, 0, 0, 0), (.iconst 1, 0, 0, 0), (.isub, 0, 0, 0), (.i2l, 0, 0, 0)] _ _ _ _ (by decide +kernel) ?_
  show _ ∧ (∃ _, _ ∧ (_ ∧ (_)))
  refine ⟨((o_r0_11).mono hm1), r0_30, (by rw [em1]; exact e_r0_30), ib2, ?_⟩
  show G Γ m_MO_log (d + 1) (0, 0) Q 18 [.ref r0, .int x1, .int x2] [.long (((xI μ1 r0_30 (w 42).toNatClampNeg) - (w 1)).toInt64), .long (wl 0), .long (x1.toInt64)] μ1
  refine g_invS (M' := m_MO_isIn) (b1 := 0) (b2 := 0) (As := [.long (x1.toInt64), .long (wl 0), .long (((xI μ1 r0_30 (w 42).toNatClampNeg) - (w 1)).toInt64)]) (st := []) lk_11_230 (by decide +kernel) rfl (dk_MO_isIn d) (Nat.le_of_ble_eq_true rfl) h ?_
  rintro _ μ3 ⟨v3, rfl, h⟩ hn3
  show G Γ m_MO_log (d + 1) (0, 0) Q 21 [.ref r0, .int x1, .int x2] [.int v3] μ3
  refine g_ifz_eq (pc' := 62) (off := 41) (by decide) (by decide +kernel) (fun hc => ?_) (fun hc => ?_)
  · replace h := h.1 hc
    show G Γ m_MO_log (d + 1) (0, 0) Q 62 [.ref r0, .int x1, .int x2] [] μ3
    refine run_ok (pc' := 63) [(.iconst (-1), 0, 0, 0)] _ _ _ _ (by decide +kernel) ?_
    show G Γ m_MO_log (d + 1) (0, 0) Q 63 [.ref r0, .int x1, .int x2] [.int (w (-1))] μ3
    exact g_reti (by decide +kernel) rfl h
  · replace h := h.2 hc
    show G Γ m_MO_log (d + 1) (0, 0) Q 24 [.ref r0, .int x1, .int x2] [] μ3
    refine run_ok (pc' := 30) [(.iload_n 2, 0, 0, 0), (.i2l, 0, 0, 0), (.lconst 0, 0, 0, 0), (.ldc2_w 354, 0, 0, 3)] _ _ _ _ (by decide +kernel) ?_
    show G Γ m_MO_log (d + 1) (0, 0) Q 30 [.ref r0, .int x1, .int x2] [.long (wl 3), .long (wl 0), .long (x2.toInt64)] μ3
    refine g_invS (M' := m_MO_isIn) (b1 := 0) (b2 := 0) (As := [.long (x2.toInt64), .long (wl 0), .long (wl 3)]) (st := []) lk_11_230 (by decide +kernel) rfl (dk_MO_isIn d) (Nat.le_of_ble_eq_true rfl) h ?_
    rintro _ μ4 ⟨v4, rfl, h⟩ hn4
    show G Γ m_MO_log (d + 1) (0, 0) Q 33 [.ref r0, .int x1, .int x2] [.int v4] μ4
    refine g_ifz_eq (pc' := 62) (off := 29) (by decide) (by decide +kernel) (fun hc => ?_) (fun hc => ?_)
    · replace h := h.1 hc
      show G Γ m_MO_log (d + 1) (0, 0) Q 62 [.ref r0, .int x1, .int x2] [] μ4
      refine run_ok (pc' := 63) [(.iconst (-1), 0, 0, 0)] _ _ _ _ (by decide +kernel) ?_
      show G Γ m_MO_log (d + 1) (0, 0) Q 63 [.ref r0, .int x1, .int x2] [.int (w (-1))] μ4
      exact g_reti (by decide +kernel) rfl h
    · replace h := h.2 hc
      show G Γ m_MO_log (d + 1) (0, 0) Q 36 [.ref r0, .int x1, .int x2] [] μ4
      obtain ⟨ea5, h⟩ := h
      obtain ⟨ib6, h⟩ := h
      obtain ⟨ib7, h⟩ := h
      refine run_ok (pc' := 63) [(.aload_n 0, 0, 0, 0), (.getfield 58, 11, 30, 2), (.bipush 43, 0, 0, 0), (.iconst 4, 0, 0, 0), (.aload_n 0, 0, 0, 0), (.getfield 58, 11, 30, 2), (.bipush 42, 0, 0, 0), (.iaload, 0, 0, 0), (.iconst 1, 0, 0, 0), (.isub, 0, 0, 0), (.iload_n 1, 0, 0, 0), (.isub, 0, 0, 0), (.imul, 0, 0, 0), (.iadd, 0, 0, 0), (.iload_n 2, 0, 0, 0), (.iadd, 0, 0, 0), (.iaload, 0, 0, 0), (.goto 4, 0, 0, 0)] _ _ _ _ (by decide +kernel) ?_
      show _ ∧ (∃ _, _ ∧ (_ ∧ (∃ _, _ ∧ (_ ∧ (_ ∧ (_))))))
      refine ⟨((((o_r0_11).mono hm1).mono hn3).mono hn4), r0_30, ea5, ((((o_r0_11).mono hm1).mono hn3).mono hn4), r0_30, ea5, ib6, ib7, ?_⟩
      show G Γ m_MO_log (d + 1) (0, 0) Q 63 [.ref r0, .int x1, .int x2] [.int (xI μ4 r0_30 (((w 43) + ((w 4) * (((xI μ4 r0_30 (w 42).toNatClampNeg) - (w 1)) - x1))) + x2).toNatClampNeg)] μ4
      exact g_reti (by decide +kernel) rfl h
/-! FrostBoxModel isPlan(I)Z -/
set_option maxRecDepth 100000 in
theorem B_MO_isPlan_0 {Γ : XG} {d : Nat} {Q : Option Value → XM → Prop} {r0 : Nat} {x1 : Int32} {μ : XM} (o_r0_11 : ob μ r0 11) (h : ((x1 < w 0 → Q (some (.int (w 0))) μ) ∧ (¬ x1 < w 0 → ((x1 < xI μ r0 28 → Q (some (.int (w 1))) μ) ∧ (¬ x1 < xI μ r0 28 → Q (some (.int (w 0))) μ))))) : G Γ m_MO_isPlan (d + 1) (0, 0) Q 0 [.ref r0, .int x1] [] μ := by
  refine run_ok (pc' := 1) [(.iload_n 1, 0, 0, 0)] _ _ _ _ (by decide +kernel) ?_
  show G Γ m_MO_isPlan (d + 1) (0, 0) Q 1 [.ref r0, .int x1] [.int x1] μ
  refine g_ifz_lt (pc' := 16) (off := 15) (by decide) (by decide +kernel) (fun hc => ?_) (fun hc => ?_)
  · replace h := h.1 hc
    show G Γ m_MO_isPlan (d + 1) (0, 0) Q 16 [.ref r0, .int x1] [] μ
    refine run_ok (pc' := 17) [(.iconst 0, 0, 0, 0)] _ _ _ _ (by decide +kernel) ?_
    show G Γ m_MO_isPlan (d + 1) (0, 0) Q 17 [.ref r0, .int x1] [.int (w 0)] μ
    exact g_retz (by decide +kernel) rfl (Or.inl rfl) h
  · replace h := h.2 hc
    show G Γ m_MO_isPlan (d + 1) (0, 0) Q 4 [.ref r0, .int x1] [] μ
    refine run_ok (pc' := 9) [(.iload_n 1, 0, 0, 0), (.aload_n 0, 0, 0, 0), (.getfield 302, 11, 28, 0)] _ _ _ _ (by decide +kernel) ?_
    show _ ∧ (_)
    refine ⟨o_r0_11, ?_⟩
    show G Γ m_MO_isPlan (d + 1) (0, 0) Q 9 [.ref r0, .int x1] [.int (xI μ r0 28), .int x1] μ
    refine g_icmp_ge (pc' := 16) (off := 7) (by decide) (by decide +kernel) (fun hc => ?_) (fun hc => ?_)
    · replace h := h.2 hc
      show G Γ m_MO_isPlan (d + 1) (0, 0) Q 16 [.ref r0, .int x1] [] μ
      refine run_ok (pc' := 17) [(.iconst 0, 0, 0, 0)] _ _ _ _ (by decide +kernel) ?_
      show G Γ m_MO_isPlan (d + 1) (0, 0) Q 17 [.ref r0, .int x1] [.int (w 0)] μ
      exact g_retz (by decide +kernel) rfl (Or.inl rfl) h
    · replace h := h.1 hc
      show G Γ m_MO_isPlan (d + 1) (0, 0) Q 12 [.ref r0, .int x1] [] μ
      refine run_ok (pc' := 17) [(.iconst 1, 0, 0, 0), (.goto 4, 0, 0, 0)] _ _ _ _ (by decide +kernel) ?_
      show G Γ m_MO_isPlan (d + 1) (0, 0) Q 17 [.ref r0, .int x1] [.int (w 1)] μ
      exact g_retz (by decide +kernel) rfl (Or.inr rfl) h
/-! FrostBoxModel step(III)I -/
set_option maxRecDepth 100000 in
theorem lk_11_429 : LkV 11 429 m_MO_isPlan 1 := ⟨lc_MO_isPlan, lwG_in (List.mem_of_getElem? (i := 1740) rfl) rfl, lwG_in (List.mem_of_getElem? (i := 1742) rfl) rfl, lwG_in (List.mem_of_getElem? (i := 94) rfl) rfl⟩
set_option maxRecDepth 100000 in
theorem B_MO_step_0 {Γ : XG} {d : Nat} {Q : Option Value → XM → Prop} {r0 : Nat} {x1 x2 x3 : Int32} {μ : XM} (o_r0_11 : ob μ r0 11) (h : ∀ μ1, μ1 = sI μ r0 0 (w 0) → Call Γ m_MO_isPlan d [.ref r0, .int x1] μ1 (KI (fun v2 μ2 => ((v2 = w 0 → Q (some (.int (w (-1000000)))) μ2) ∧ (¬ v2 = w 0 → ∃ a3, xR μ2 r0 24 = some a3 ∧ inb μ2 0 a3 x1 ∧ Call Γ m_MO_isIn d [.long (x2.toInt64), .long (wl 0), .long (((xI μ2 a3 x1.toNatClampNeg) - (w 1)).toInt64)] μ2 (KI (fun v5 μ5 => ((v5 = w 0 → Q (some (.int (w (-1000000)))) μ5) ∧ (¬ v5 = w 0 → Call Γ m_MO_isIn d [.long (x3.toInt64), .long (wl 0), .long (wl 3)] μ5 (KI (fun v6 μ6 => ((v6 = w 0 → Q (some (.int (w (-1000000)))) μ6) ∧ (¬ v6 = w 0 → ∃ a7, xR μ6 r0 23 = some a7 ∧ inb μ6 0 a7 (((w 4) * (((w 16) * x1) + x2)) + x3) ∧ Q (some (.int (xI μ6 a7 (((w 4) * (((w 16) * x1) + x2)) + x3).toNatClampNeg))) μ6))))))))))))) : G Γ m_MO_step (d + 1) (0, 0) Q 0 [.ref r0, .int x1, .int x2, .int x3] [] μ := by
  refine run_ok (pc' := 5) [(.aload_n 0, 0, 0, 0), (.iconst 0, 0, 0, 0), (.putfield 109, 11, 0, 0)] _ _ _ _ (by decide +kernel) ?_
  show _ ∧ (_)
  refine ⟨o_r0_11, ?_⟩
  show G Γ m_MO_step (d + 1) (0, 0) Q 5 [.ref r0, .int x1, .int x2, .int x3] [] (sI μ r0 0 (w 0))
  obtain ⟨μ1, em1⟩ : ∃ m : XM, m = sI μ r0 0 (w 0) := ⟨_, rfl⟩
  replace h := h μ1 em1
  have hm1 : xN μ ≤ xN μ1 := by rw [em1]; exact Nat.le_refl _
  rw [← em1]
  refine run_ok (pc' := 7) [(.aload_n 0, 0, 0, 0), (.iload_n 1, 0, 0, 0)] _ _ _ _ (by decide +kernel) ?_
  show G Γ m_MO_step (d + 1) (0, 0) Q 7 [.ref r0, .int x1, .int x2, .int x3] [.int x1, .ref r0] μ1
  refine g_invV (M' := m_MO_isPlan) (b1 := 0) (b2 := 0) (As := [.int x1]) (a := r0) (st := []) lk_11_429 (by decide +kernel) rfl (dk_MO_isPlan d) (Nat.le_of_ble_eq_true rfl) (Or.inl ⟨11, ((o_r0_11).mono hm1), rfl⟩) h ?_
  rintro _ μ2 ⟨v2, rfl, h⟩ hn2
  show G Γ m_MO_step (d + 1) (0, 0) Q 10 [.ref r0, .int x1, .int x2, .int x3] [.int v2] μ2
  refine g_ifz_eq (pc' := 61) (off := 51) (by decide) (by decide +kernel) (fun hc => ?_) (fun hc => ?_)
  · replace h := h.1 hc
    show G Γ m_MO_step (d + 1) (0, 0) Q 61 [.ref r0, .int x1, .int x2, .int x3] [] μ2
    refine run_ok (pc' := 64) [(.ldc_w 432, 0, 0, (-1000000))] _ _ _ _ (by decide +kernel) ?_
    show G Γ m_MO_step (d + 1) (0, 0) Q 64 [.ref r0, .int x1, .int x2, .int x3] [.int (w (-1000000))] μ2
    exact g_reti (by decide +kernel) rfl h
  · replace h := h.2 hc
    show G Γ m_MO_step (d + 1) (0, 0) Q 13 [.ref r0, .int x1, .int x2, .int x3] [] μ2
    obtain ⟨a3, ea3, h⟩ := h
    obtain ⟨ib4, h⟩ := h
    refine run_ok (pc' := 25) [(.iload_n 2, 0, 0, 0), (.i2l, 0, 0, 0), (.lconst 0, 0, 0, 0), (.aload_n 0, 0, 0, 0), (.getfield 55, 11, 24, 2), (.iload_n 1, 0, 0, 0), (.iaload, 0, 0, 0), (.iconst 1, 0, 0, 0), (.isub, 0, 0, 0), (.i2l, 0, 0, 0)] _ _ _ _ (by decide +kernel) ?_
    show _ ∧ (∃ _, _ ∧ (_ ∧ (_)))
    refine ⟨(((o_r0_11).mono hm1).mono hn2), a3, ea3, ib4, ?_⟩
    show G Γ m_MO_step (d + 1) (0, 0) Q 25 [.ref r0, .int x1, .int x2, .int x3] [.long (((xI μ2 a3 x1.toNatClampNeg) - (w 1)).toInt64), .long (wl 0), .long (x2.toInt64)] μ2
    refine g_invS (M' := m_MO_isIn) (b1 := 0) (b2 := 0) (As := [.long (x2.toInt64), .long (wl 0), .long (((xI μ2 a3 x1.toNatClampNeg) - (w 1)).toInt64)]) (st := []) lk_11_230 (by decide +kernel) rfl (dk_MO_isIn d) (Nat.le_of_ble_eq_true rfl) h ?_
    rintro _ μ5 ⟨v5, rfl, h⟩ hn5
    show G Γ m_MO_step (d + 1) (0, 0) Q 28 [.ref r0, .int x1, .int x2, .int x3] [.int v5] μ5
    refine g_ifz_eq (pc' := 61) (off := 33) (by decide) (by decide +kernel) (fun hc => ?_) (fun hc => ?_)
    · replace h := h.1 hc
      show G Γ m_MO_step (d + 1) (0, 0) Q 61 [.ref r0, .int x1, .int x2, .int x3] [] μ5
      refine run_ok (pc' := 64) [(.ldc_w 432, 0, 0, (-1000000))] _ _ _ _ (by decide +kernel) ?_
      show G Γ m_MO_step (d + 1) (0, 0) Q 64 [.ref r0, .int x1, .int x2, .int x3] [.int (w (-1000000))] μ5
      exact g_reti (by decide +kernel) rfl h
    · replace h := h.2 hc
      show G Γ m_MO_step (d + 1) (0, 0) Q 31 [.ref r0, .int x1, .int x2, .int x3] [] μ5
      refine run_ok (pc' := 37) [(.iload_n 3, 0, 0, 0), (.i2l, 0, 0, 0), (.lconst 0, 0, 0, 0), (.ldc2_w 354, 0, 0, 3)] _ _ _ _ (by decide +kernel) ?_
      show G Γ m_MO_step (d + 1) (0, 0) Q 37 [.ref r0, .int x1, .int x2, .int x3] [.long (wl 3), .long (wl 0), .long (x3.toInt64)] μ5
      refine g_invS (M' := m_MO_isIn) (b1 := 0) (b2 := 0) (As := [.long (x3.toInt64), .long (wl 0), .long (wl 3)]) (st := []) lk_11_230 (by decide +kernel) rfl (dk_MO_isIn d) (Nat.le_of_ble_eq_true rfl) h ?_
      rintro _ μ6 ⟨v6, rfl, h⟩ hn6
      show G Γ m_MO_step (d + 1) (0, 0) Q 40 [.ref r0, .int x1, .int x2, .int x3] [.int v6] μ6
      refine g_ifz_eq (pc' := 61) (off := 21) (by decide) (by decide +kernel) (fun hc => ?_) (fun hc => ?_)
      · replace h := h.1 hc
        show G Γ m_MO_step (d + 1) (0, 0) Q 61 [.ref r0, .int x1, .int x2, .int x3] [] μ6
        refine run_ok (pc' := 64) [(.ldc_w 432, 0, 0, (-1000000))] _ _ _ _ (by decide +kernel) ?_
        show G Γ m_MO_step (d + 1) (0, 0) Q 64 [.ref r0, .int x1, .int x2, .int x3] [.int (w (-1000000))] μ6
        exact g_reti (by decide +kernel) rfl h
      · replace h := h.2 hc
        show G Γ m_MO_step (d + 1) (0, 0) Q 43 [.ref r0, .int x1, .int x2, .int x3] [] μ6
        obtain ⟨a7, ea7, h⟩ := h
        obtain ⟨ib8, h⟩ := h
        refine run_ok (pc' := 64) [(.aload_n 0, 0, 0, 0), (.getfield 52, 11, 23, 2), (.iconst 4, 0, 0, 0), (.bipush 16, 0, 0, 0), (.iload_n 1, 0, 0, 0), (.imul, 0, 0, 0), (.iload_n 2, 0, 0, 0), (.iadd, 0, 0, 0), (.imul, 0, 0, 0), (.iload_n 3, 0, 0, 0), (.iadd, 0, 0, 0), (.iaload, 0, 0, 0), (.goto 6, 0, 0, 0)] _ _ _ _ (by decide +kernel) ?_
        show _ ∧ (∃ _, _ ∧ (_ ∧ (_)))
        refine ⟨(((((o_r0_11).mono hm1).mono hn2).mono hn5).mono hn6), a7, ea7, ib8, ?_⟩
        show G Γ m_MO_step (d + 1) (0, 0) Q 64 [.ref r0, .int x1, .int x2, .int x3] [.int (xI μ6 a7 (((w 4) * (((w 16) * x1) + x2)) + x3).toNatClampNeg)] μ6
        exact g_reti (by decide +kernel) rfl h
/-! FrostBoxModel canStep([II)Z -/
set_option maxRecDepth 100000 in
theorem B_MO_canStep_0 {Γ : XG} {d : Nat} {Q : Option Value → XM → Prop} {r0 r1 r0_23 : Nat} {x2 : Int32} {μ : XM} (o_r0_11 : ob μ r0 11) (e_r0_23 : xR μ r0 23 = some r0_23) (h : inb μ 0 r0_23 (x2 + (w 1)) ∧ inb μ 0 r0_23 x2 ∧ (((xI μ r0_23 x2.toNatClampNeg < w 0 ∨ w 3 < xI μ r0_23 x2.toNatClampNeg) → Call Γ m_MO_isHours d [.ref r0, .int (xI μ r0_23 (x2 + (w 1)).toNatClampNeg)] μ (KI (fun v3 μ3 => ((v3 = w 0 ∨ v3 = w 1) ∧ Q (some (.int v3)) μ3)))) ∧ (xI μ r0_23 x2.toNatClampNeg = w 0 → inb μ 0 r0_23 (x2 + (w 2)) ∧ Call Γ m_MO_canPut d [.ref r0, .ref r1, .int (xI μ r0_23 (x2 + (w 1)).toNatClampNeg), .int (xI μ r0_23 (x2 + (w 2)).toNatClampNeg)] μ (KI (fun v5 μ5 => ((v5 = w 0 ∨ v5 = w 1) ∧ Q (some (.int v5)) μ5)))) ∧ (xI μ r0_23 x2.toNatClampNeg = w 1 → Call Γ m_MO_isBox d [.ref r0, .ref r1, .int (xI μ r0_23 (x2 + (w 1)).toNatClampNeg)] μ (KI (fun v6 μ6 => ((v6 = w 0 ∨ v6 = w 1) ∧ Q (some (.int v6)) μ6)))) ∧ (xI μ r0_23 x2.toNatClampNeg = w 2 → Call Γ m_MO_canLabel d [.ref r0, .ref r1, .int (xI μ r0_23 (x2 + (w 1)).toNatClampNeg)] μ (KI (fun v7 μ7 => ((v7 = w 0 ∨ v7 = w 1) ∧ Q (some (.int v7)) μ7)))) ∧ (xI μ r0_23 x2.toNatClampNeg = w 3 → Call Γ m_MO_mayPass d [.ref r0, .ref r1, .int (xI μ r0_23 (x2 + (w 1)).toNatClampNeg), .int (w 9)] μ (KI (fun v8 μ8 => ((v8 = w 0 ∨ v8 = w 1) ∧ Q (some (.int v8)) μ8)))))) : G Γ m_MO_canStep (d + 1) (0, 0) Q 0 [.ref r0, .ref r1, .int x2] [] μ := by
  obtain ⟨ib1, h⟩ := h
  obtain ⟨ib2, h⟩ := h
  refine run_ok (pc' := 15) [(.aload_n 0, 0, 0, 0), (.getfield 52, 11, 23, 2), (.iload_n 2, 0, 0, 0), (.iconst 1, 0, 0, 0), (.iadd, 0, 0, 0), (.iaload, 0, 0, 0), (.istore_n 3, 0, 0, 0), (.aload_n 0, 0, 0, 0), (.getfield 52, 11, 23, 2), (.iload_n 2, 0, 0, 0), (.iaload, 0, 0, 0)] _ _ _ _ (by decide +kernel) ?_
  show _ ∧ (∃ _, _ ∧ (_ ∧ (_ ∧ (∃ _, _ ∧ (_ ∧ (_))))))
  refine ⟨o_r0_11, r0_23, e_r0_23, ib1, o_r0_11, r0_23, e_r0_23, ib2, ?_⟩
  show G Γ m_MO_canStep (d + 1) (0, 0) Q 15 [.ref r0, .ref r1, .int x2, .int (xI μ r0_23 (x2 + (w 1)).toNatClampNeg)] [.int (xI μ r0_23 x2.toNatClampNeg)] μ
  refine g_sw (df := 67) (lo := 0) (n := 4) (offs := #[29, 44, 51, 58]) (len := 29) (by decide +kernel) (by decide) (pd := 82) (by decide) (fun hc => ?_) (fun k hk hc => ?_)
  · replace h := h.1 hc
    show G Γ m_MO_canStep (d + 1) (0, 0) Q 82 [.ref r0, .ref r1, .int x2, .int (xI μ r0_23 (x2 + (w 1)).toNatClampNeg)] [] μ
    refine run_ok (pc' := 84) [(.aload_n 0, 0, 0, 0), (.iload_n 3, 0, 0, 0)] _ _ _ _ (by decide +kernel) ?_
    show G Γ m_MO_canStep (d + 1) (0, 0) Q 84 [.ref r0, .ref r1, .int x2, .int (xI μ r0_23 (x2 + (w 1)).toNatClampNeg)] [.int (xI μ r0_23 (x2 + (w 1)).toNatClampNeg), .ref r0] μ
    refine g_invV (M' := m_MO_isHours) (b1 := 0) (b2 := 0) (As := [.int (xI μ r0_23 (x2 + (w 1)).toNatClampNeg)]) (a := r0) (st := []) lk_11_412 (by decide +kernel) rfl (dk_MO_isHours d) (Nat.le_of_ble_eq_true rfl) (Or.inl ⟨11, o_r0_11, rfl⟩) h ?_
    rintro _ μ3 ⟨v3, rfl, h⟩ hn3
    show G Γ m_MO_canStep (d + 1) (0, 0) Q 87 [.ref r0, .ref r1, .int x2, .int (xI μ r0_23 (x2 + (w 1)).toNatClampNeg)] [.int v3] μ3
    exact g_retz (by decide +kernel) rfl h.1 h.2
  · replace h := h.2
    match k, hk, hc with
    | 0, _, hc =>
      replace h := h.1 hc
      refine ⟨44, 29, rfl, by decide, ?_⟩
      show G Γ m_MO_canStep (d + 1) (0, 0) Q 44 [.ref r0, .ref r1, .int x2, .int (xI μ r0_23 (x2 + (w 1)).toNatClampNeg)] [] μ
      obtain ⟨ib4, h⟩ := h
      refine run_ok (pc' := 55) [(.aload_n 0, 0, 0, 0), (.aload_n 1, 0, 0, 0), (.iload_n 3, 0, 0, 0), (.aload_n 0, 0, 0, 0), (.getfield 52, 11, 23, 2), (.iload_n 2, 0, 0, 0), (.iconst 2, 0, 0, 0), (.iadd, 0, 0, 0), (.iaload, 0, 0, 0)] _ _ _ _ (by decide +kernel) ?_
      show _ ∧ (∃ _, _ ∧ (_ ∧ (_)))
      refine ⟨o_r0_11, r0_23, e_r0_23, ib4, ?_⟩
      show G Γ m_MO_canStep (d + 1) (0, 0) Q 55 [.ref r0, .ref r1, .int x2, .int (xI μ r0_23 (x2 + (w 1)).toNatClampNeg)] [.int (xI μ r0_23 (x2 + (w 2)).toNatClampNeg), .int (xI μ r0_23 (x2 + (w 1)).toNatClampNeg), .ref r1, .ref r0] μ
      refine g_invV (M' := m_MO_canPut) (b1 := 0) (b2 := 0) (As := [.ref r1, .int (xI μ r0_23 (x2 + (w 1)).toNatClampNeg), .int (xI μ r0_23 (x2 + (w 2)).toNatClampNeg)]) (a := r0) (st := []) lk_11_376 (by decide +kernel) rfl (dk_MO_canPut d) (Nat.le_of_ble_eq_true rfl) (Or.inl ⟨11, o_r0_11, rfl⟩) h ?_
      rintro _ μ5 ⟨v5, rfl, h⟩ hn5
      show G Γ m_MO_canStep (d + 1) (0, 0) Q 58 [.ref r0, .ref r1, .int x2, .int (xI μ r0_23 (x2 + (w 1)).toNatClampNeg)] [.int v5] μ5
      exact g_retz (by decide +kernel) rfl h.1 h.2
    | 1, _, hc =>
      replace h := h.2.1 hc
      refine ⟨59, 44, rfl, by decide, ?_⟩
      show G Γ m_MO_canStep (d + 1) (0, 0) Q 59 [.ref r0, .ref r1, .int x2, .int (xI μ r0_23 (x2 + (w 1)).toNatClampNeg)] [] μ
      refine run_ok (pc' := 62) [(.aload_n 0, 0, 0, 0), (.aload_n 1, 0, 0, 0), (.iload_n 3, 0, 0, 0)] _ _ _ _ (by decide +kernel) ?_
      show G Γ m_MO_canStep (d + 1) (0, 0) Q 62 [.ref r0, .ref r1, .int x2, .int (xI μ r0_23 (x2 + (w 1)).toNatClampNeg)] [.int (xI μ r0_23 (x2 + (w 1)).toNatClampNeg), .ref r1, .ref r0] μ
      refine g_invV (M' := m_MO_isBox) (b1 := 0) (b2 := 0) (As := [.ref r1, .int (xI μ r0_23 (x2 + (w 1)).toNatClampNeg)]) (a := r0) (st := []) lk_11_361 (by decide +kernel) rfl (dk_MO_isBox d) (Nat.le_of_ble_eq_true rfl) (Or.inl ⟨11, o_r0_11, rfl⟩) h ?_
      rintro _ μ6 ⟨v6, rfl, h⟩ hn6
      show G Γ m_MO_canStep (d + 1) (0, 0) Q 65 [.ref r0, .ref r1, .int x2, .int (xI μ r0_23 (x2 + (w 1)).toNatClampNeg)] [.int v6] μ6
      exact g_retz (by decide +kernel) rfl h.1 h.2
    | 2, _, hc =>
      replace h := h.2.2.1 hc
      refine ⟨66, 51, rfl, by decide, ?_⟩
      show G Γ m_MO_canStep (d + 1) (0, 0) Q 66 [.ref r0, .ref r1, .int x2, .int (xI μ r0_23 (x2 + (w 1)).toNatClampNeg)] [] μ
      refine run_ok (pc' := 69) [(.aload_n 0, 0, 0, 0), (.aload_n 1, 0, 0, 0), (.iload_n 3, 0, 0, 0)] _ _ _ _ (by decide +kernel) ?_
      show G Γ m_MO_canStep (d + 1) (0, 0) Q 69 [.ref r0, .ref r1, .int x2, .int (xI μ r0_23 (x2 + (w 1)).toNatClampNeg)] [.int (xI μ r0_23 (x2 + (w 1)).toNatClampNeg), .ref r1, .ref r0] μ
      refine g_invV (M' := m_MO_canLabel) (b1 := 0) (b2 := 0) (As := [.ref r1, .int (xI μ r0_23 (x2 + (w 1)).toNatClampNeg)]) (a := r0) (st := []) lk_11_394 (by decide +kernel) rfl (dk_MO_canLabel d) (Nat.le_of_ble_eq_true rfl) (Or.inl ⟨11, o_r0_11, rfl⟩) h ?_
      rintro _ μ7 ⟨v7, rfl, h⟩ hn7
      show G Γ m_MO_canStep (d + 1) (0, 0) Q 72 [.ref r0, .ref r1, .int x2, .int (xI μ r0_23 (x2 + (w 1)).toNatClampNeg)] [.int v7] μ7
      exact g_retz (by decide +kernel) rfl h.1 h.2
    | 3, _, hc =>
      replace h := h.2.2.2 hc
      refine ⟨73, 58, rfl, by decide, ?_⟩
      show G Γ m_MO_canStep (d + 1) (0, 0) Q 73 [.ref r0, .ref r1, .int x2, .int (xI μ r0_23 (x2 + (w 1)).toNatClampNeg)] [] μ
      refine run_ok (pc' := 78) [(.aload_n 0, 0, 0, 0), (.aload_n 1, 0, 0, 0), (.iload_n 3, 0, 0, 0), (.bipush 9, 0, 0, 0)] _ _ _ _ (by decide +kernel) ?_
      show G Γ m_MO_canStep (d + 1) (0, 0) Q 78 [.ref r0, .ref r1, .int x2, .int (xI μ r0_23 (x2 + (w 1)).toNatClampNeg)] [.int (w 9), .int (xI μ r0_23 (x2 + (w 1)).toNatClampNeg), .ref r1, .ref r0] μ
      refine g_invV (M' := m_MO_mayPass) (b1 := 0) (b2 := 0) (As := [.ref r1, .int (xI μ r0_23 (x2 + (w 1)).toNatClampNeg), .int (w 9)]) (a := r0) (st := []) lk_11_403 (by decide +kernel) rfl (dk_MO_mayPass d) (Nat.le_of_ble_eq_true rfl) (Or.inl ⟨11, o_r0_11, rfl⟩) h ?_
      rintro _ μ8 ⟨v8, rfl, h⟩ hn8
      show G Γ m_MO_canStep (d + 1) (0, 0) Q 81 [.ref r0, .ref r1, .int x2, .int (xI μ r0_23 (x2 + (w 1)).toNatClampNeg)] [.int v8] μ8
      exact g_retz (by decide +kernel) rfl h.1 h.2
    | k + 4, hk, _ => exact absurd hk (by omega)
/-! FrostBoxModel steps([II)I -/
set_option maxRecDepth 100000 in
theorem B_MO_steps_0 {Γ : XG} {d : Nat} {Q : Option Value → XM → Prop} {r0 r1 r0_23 : Nat} {x2 : Int32} {μ : XM} (o_r0_11 : ob μ r0 11) (e_r0_23 : xR μ r0 23 = some r0_23) (h : inb μ 0 r0_23 (x2 + (w 1)) ∧ inb μ 0 r0_23 x2 ∧ (((xI μ r0_23 x2.toNatClampNeg < w 0 ∨ w 3 < xI μ r0_23 x2.toNatClampNeg) → Call Γ m_MO_sumIn d [.ref r0, .ref r1] μ (KI (fun v3 μ3 => Call Γ m_MO_moreThanBorne d [.ref r0, .int v3, .int (xI μ r0_23 (x2 + (w 1)).toNatClampNeg)] μ3 (KI (fun v4 μ4 => Call Γ m_MO_ages d [.ref r0, .ref r1, .int v4] μ4 (KV (fun μ5 => Q (some (.int (w 0))) μ5))))))) ∧ (xI μ r0_23 x2.toNatClampNeg = w 0 → inb μ 0 r0_23 (x2 + (w 2)) ∧ inb μ 0 r0_23 (x2 + (w 3)) ∧ Call Γ m_MO_puts d [.ref r1, .int (xI μ r0_23 (x2 + (w 1)).toNatClampNeg), .int (xI μ r0_23 (x2 + (w 2)).toNatClampNeg), .int (xI μ r0_23 (x2 + (w 3)).toNatClampNeg)] μ (KV (fun μ8 => Q (some (.int (w 0))) μ8))) ∧ (xI μ r0_23 x2.toNatClampNeg = w 1 → Call Γ m_MO_eats d [.ref r0, .ref r1, .int (xI μ r0_23 (x2 + (w 1)).toNatClampNeg)] μ (KI (fun v9 μ9 => Q (some (.int v9)) μ9))) ∧ (xI μ r0_23 x2.toNatClampNeg = w 2 → Call Γ m_MO_names d [.ref r1, .int (xI μ r0_23 (x2 + (w 1)).toNatClampNeg)] μ (KV (fun μ10 => Q (some (.int (w 0))) μ10))) ∧ (xI μ r0_23 x2.toNatClampNeg = w 3 → Call Γ m_MO_goMonth d [.ref r0, .ref r1] μ (KV (fun μ11 => Q (some (.int (w 0))) μ11))))) : G Γ m_MO_steps (d + 1) (0, 0) Q 0 [.ref r0, .ref r1, .int x2] [] μ := by
  obtain ⟨ib1, h⟩ := h
  obtain ⟨ib2, h⟩ := h
  refine run_ok (pc' := 15) [(.aload_n 0, 0, 0, 0), (.getfield 52, 11, 23, 2), (.iload_n 2, 0, 0, 0), (.iconst 1, 0, 0, 0), (.iadd, 0, 0, 0), (.iaload, 0, 0, 0), (.istore_n 3, 0, 0, 0), (.aload_n 0, 0, 0, 0), (.getfield 52, 11, 23, 2), (.iload_n 2, 0, 0, 0), (.iaload, 0, 0, 0)] _ _ _ _ (by decide +kernel) ?_
  show _ ∧ (∃ _, _ ∧ (_ ∧ (_ ∧ (∃ _, _ ∧ (_ ∧ (_))))))
  refine ⟨o_r0_11, r0_23, e_r0_23, ib1, o_r0_11, r0_23, e_r0_23, ib2, ?_⟩
  show G Γ m_MO_steps (d + 1) (0, 0) Q 15 [.ref r0, .ref r1, .int x2, .int (xI μ r0_23 (x2 + (w 1)).toNatClampNeg)] [.int (xI μ r0_23 x2.toNatClampNeg)] μ
  refine g_sw (df := 73) (lo := 0) (n := 4) (offs := #[29, 52, 59, 66]) (len := 29) (by decide +kernel) (by decide) (pd := 88) (by decide) (fun hc => ?_) (fun k hk hc => ?_)
  · replace h := h.1 hc
    show G Γ m_MO_steps (d + 1) (0, 0) Q 88 [.ref r0, .ref r1, .int x2, .int (xI μ r0_23 (x2 + (w 1)).toNatClampNeg)] [] μ
    refine run_ok (pc' := 93) [(.aload_n 0, 0, 0, 0), (.aload_n 1, 0, 0, 0), (.aload_n 0, 0, 0, 0), (.aload_n 0, 0, 0, 0), (.aload_n 1, 0, 0, 0)] _ _ _ _ (by decide +kernel) ?_
    show G Γ m_MO_steps (d + 1) (0, 0) Q 93 [.ref r0, .ref r1, .int x2, .int (xI μ r0_23 (x2 + (w 1)).toNatClampNeg)] [.ref r1, .ref r0, .ref r0, .ref r1, .ref r0] μ
    refine g_invV (M' := m_MO_sumIn) (b1 := 0) (b2 := 0) (As := [.ref r1]) (a := r0) (st := [.ref r0, .ref r1, .ref r0]) lk_11_372 (by decide +kernel) rfl (dk_MO_sumIn d) (Nat.le_of_ble_eq_true rfl) (Or.inl ⟨11, o_r0_11, rfl⟩) h ?_
    rintro _ μ3 ⟨v3, rfl, h⟩ hn3
    show G Γ m_MO_steps (d + 1) (0, 0) Q 96 [.ref r0, .ref r1, .int x2, .int (xI μ r0_23 (x2 + (w 1)).toNatClampNeg)] [.int v3, .ref r0, .ref r1, .ref r0] μ3
    refine run_ok (pc' := 97) [(.iload_n 3, 0, 0, 0)] _ _ _ _ (by decide +kernel) ?_
    show G Γ m_MO_steps (d + 1) (0, 0) Q 97 [.ref r0, .ref r1, .int x2, .int (xI μ r0_23 (x2 + (w 1)).toNatClampNeg)] [.int (xI μ r0_23 (x2 + (w 1)).toNatClampNeg), .int v3, .ref r0, .ref r1, .ref r0] μ3
    refine g_invV (M' := m_MO_moreThanBorne) (b1 := 0) (b2 := 0) (As := [.int v3, .int (xI μ r0_23 (x2 + (w 1)).toNatClampNeg)]) (a := r0) (st := [.ref r1, .ref r0]) lk_11_415 (by decide +kernel) rfl (dk_MO_moreThanBorne d) (Nat.le_of_ble_eq_true rfl) (Or.inl ⟨11, ((o_r0_11).mono hn3), rfl⟩) h ?_
    rintro _ μ4 ⟨v4, rfl, h⟩ hn4
    show G Γ m_MO_steps (d + 1) (0, 0) Q 100 [.ref r0, .ref r1, .int x2, .int (xI μ r0_23 (x2 + (w 1)).toNatClampNeg)] [.int v4, .ref r1, .ref r0] μ4
    refine g_invV (M' := m_MO_ages) (b1 := 0) (b2 := 0) (As := [.ref r1, .int v4]) (a := r0) (st := []) lk_11_400 (by decide +kernel) rfl (dk_MO_ages d) (Nat.le_of_ble_eq_true rfl) (Or.inl ⟨11, (((o_r0_11).mono hn3).mono hn4), rfl⟩) h ?_
    rintro _ μ5 ⟨rfl, h⟩ hn5
    show G Γ m_MO_steps (d + 1) (0, 0) Q 103 [.ref r0, .ref r1, .int x2, .int (xI μ r0_23 (x2 + (w 1)).toNatClampNeg)] [] μ5
    refine run_ok (pc' := 104) [(.iconst 0, 0, 0, 0)] _ _ _ _ (by decide +kernel) ?_
    show G Γ m_MO_steps (d + 1) (0, 0) Q 104 [.ref r0, .ref r1, .int x2, .int (xI μ r0_23 (x2 + (w 1)).toNatClampNeg)] [.int (w 0)] μ5
    exact g_reti (by decide +kernel) rfl h
  · replace h := h.2
    match k, hk, hc with
    | 0, _, hc =>
      replace h := h.1 hc
      refine ⟨44, 29, rfl, by decide, ?_⟩
      show G Γ m_MO_steps (d + 1) (0, 0) Q 44 [.ref r0, .ref r1, .int x2, .int (xI μ r0_23 (x2 + (w 1)).toNatClampNeg)] [] μ
      obtain ⟨ib6, h⟩ := h
      obtain ⟨ib7, h⟩ := h
      refine run_ok (pc' := 62) [(.aload_n 1, 0, 0, 0), (.iload_n 3, 0, 0, 0), (.aload_n 0, 0, 0, 0), (.getfield 52, 11, 23, 2), (.iload_n 2, 0, 0, 0), (.iconst 2, 0, 0, 0), (.iadd, 0, 0, 0), (.iaload, 0, 0, 0), (.aload_n 0, 0, 0, 0), (.getfield 52, 11, 23, 2), (.iload_n 2, 0, 0, 0), (.iconst 3, 0, 0, 0), (.iadd, 0, 0, 0), (.iaload, 0, 0, 0)] _ _ _ _ (by decide +kernel) ?_
      show _ ∧ (∃ _, _ ∧ (_ ∧ (_ ∧ (∃ _, _ ∧ (_ ∧ (_))))))
      refine ⟨o_r0_11, r0_23, e_r0_23, ib6, o_r0_11, r0_23, e_r0_23, ib7, ?_⟩
      show G Γ m_MO_steps (d + 1) (0, 0) Q 62 [.ref r0, .ref r1, .int x2, .int (xI μ r0_23 (x2 + (w 1)).toNatClampNeg)] [.int (xI μ r0_23 (x2 + (w 3)).toNatClampNeg), .int (xI μ r0_23 (x2 + (w 2)).toNatClampNeg), .int (xI μ r0_23 (x2 + (w 1)).toNatClampNeg), .ref r1] μ
      refine g_invS (M' := m_MO_puts) (b1 := 0) (b2 := 0) (As := [.ref r1, .int (xI μ r0_23 (x2 + (w 1)).toNatClampNeg), .int (xI μ r0_23 (x2 + (w 2)).toNatClampNeg), .int (xI μ r0_23 (x2 + (w 3)).toNatClampNeg)]) (st := []) lk_11_383 (by decide +kernel) rfl (dk_MO_puts d) (Nat.le_of_ble_eq_true rfl) h ?_
      rintro _ μ8 ⟨rfl, h⟩ hn8
      show G Γ m_MO_steps (d + 1) (0, 0) Q 65 [.ref r0, .ref r1, .int x2, .int (xI μ r0_23 (x2 + (w 1)).toNatClampNeg)] [] μ8
      refine run_ok (pc' := 66) [(.iconst 0, 0, 0, 0)] _ _ _ _ (by decide +kernel) ?_
      show G Γ m_MO_steps (d + 1) (0, 0) Q 66 [.ref r0, .ref r1, .int x2, .int (xI μ r0_23 (x2 + (w 1)).toNatClampNeg)] [.int (w 0)] μ8
      exact g_reti (by decide +kernel) rfl h
    | 1, _, hc =>
      replace h := h.2.1 hc
      refine ⟨67, 52, rfl, by decide, ?_⟩
      show G Γ m_MO_steps (d + 1) (0, 0) Q 67 [.ref r0, .ref r1, .int x2, .int (xI μ r0_23 (x2 + (w 1)).toNatClampNeg)] [] μ
      refine run_ok (pc' := 70) [(.aload_n 0, 0, 0, 0), (.aload_n 1, 0, 0, 0), (.iload_n 3, 0, 0, 0)] _ _ _ _ (by decide +kernel) ?_
      show G Γ m_MO_steps (d + 1) (0, 0) Q 70 [.ref r0, .ref r1, .int x2, .int (xI μ r0_23 (x2 + (w 1)).toNatClampNeg)] [.int (xI μ r0_23 (x2 + (w 1)).toNatClampNeg), .ref r1, .ref r0] μ
      refine g_invV (M' := m_MO_eats) (b1 := 0) (b2 := 0) (As := [.ref r1, .int (xI μ r0_23 (x2 + (w 1)).toNatClampNeg)]) (a := r0) (st := []) lk_11_391 (by decide +kernel) rfl (dk_MO_eats d) (Nat.le_of_ble_eq_true rfl) (Or.inl ⟨11, o_r0_11, rfl⟩) h ?_
      rintro _ μ9 ⟨v9, rfl, h⟩ hn9
      show G Γ m_MO_steps (d + 1) (0, 0) Q 73 [.ref r0, .ref r1, .int x2, .int (xI μ r0_23 (x2 + (w 1)).toNatClampNeg)] [.int v9] μ9
      exact g_reti (by decide +kernel) rfl h
    | 2, _, hc =>
      replace h := h.2.2.1 hc
      refine ⟨74, 59, rfl, by decide, ?_⟩
      show G Γ m_MO_steps (d + 1) (0, 0) Q 74 [.ref r0, .ref r1, .int x2, .int (xI μ r0_23 (x2 + (w 1)).toNatClampNeg)] [] μ
      refine run_ok (pc' := 76) [(.aload_n 1, 0, 0, 0), (.iload_n 3, 0, 0, 0)] _ _ _ _ (by decide +kernel) ?_
      show G Γ m_MO_steps (d + 1) (0, 0) Q 76 [.ref r0, .ref r1, .int x2, .int (xI μ r0_23 (x2 + (w 1)).toNatClampNeg)] [.int (xI μ r0_23 (x2 + (w 1)).toNatClampNeg), .ref r1] μ
      refine g_invS (M' := m_MO_names) (b1 := 0) (b2 := 0) (As := [.ref r1, .int (xI μ r0_23 (x2 + (w 1)).toNatClampNeg)]) (st := []) lk_11_397 (by decide +kernel) rfl (dk_MO_names d) (Nat.le_of_ble_eq_true rfl) h ?_
      rintro _ μ10 ⟨rfl, h⟩ hn10
      show G Γ m_MO_steps (d + 1) (0, 0) Q 79 [.ref r0, .ref r1, .int x2, .int (xI μ r0_23 (x2 + (w 1)).toNatClampNeg)] [] μ10
      refine run_ok (pc' := 80) [(.iconst 0, 0, 0, 0)] _ _ _ _ (by decide +kernel) ?_
      show G Γ m_MO_steps (d + 1) (0, 0) Q 80 [.ref r0, .ref r1, .int x2, .int (xI μ r0_23 (x2 + (w 1)).toNatClampNeg)] [.int (w 0)] μ10
      exact g_reti (by decide +kernel) rfl h
    | 3, _, hc =>
      replace h := h.2.2.2 hc
      refine ⟨81, 66, rfl, by decide, ?_⟩
      show G Γ m_MO_steps (d + 1) (0, 0) Q 81 [.ref r0, .ref r1, .int x2, .int (xI μ r0_23 (x2 + (w 1)).toNatClampNeg)] [] μ
      refine run_ok (pc' := 83) [(.aload_n 0, 0, 0, 0), (.aload_n 1, 0, 0, 0)] _ _ _ _ (by decide +kernel) ?_
      show G Γ m_MO_steps (d + 1) (0, 0) Q 83 [.ref r0, .ref r1, .int x2, .int (xI μ r0_23 (x2 + (w 1)).toNatClampNeg)] [.ref r1, .ref r0] μ
      refine g_invV (M' := m_MO_goMonth) (b1 := 0) (b2 := 0) (As := [.ref r1]) (a := r0) (st := []) lk_11_406 (by decide +kernel) rfl (dk_MO_goMonth d) (Nat.le_of_ble_eq_true rfl) (Or.inl ⟨11, o_r0_11, rfl⟩) h ?_
      rintro _ μ11 ⟨rfl, h⟩ hn11
      show G Γ m_MO_steps (d + 1) (0, 0) Q 86 [.ref r0, .ref r1, .int x2, .int (xI μ r0_23 (x2 + (w 1)).toNatClampNeg)] [] μ11
      refine run_ok (pc' := 87) [(.iconst 0, 0, 0, 0)] _ _ _ _ (by decide +kernel) ?_
      show G Γ m_MO_steps (d + 1) (0, 0) Q 87 [.ref r0, .ref r1, .int x2, .int (xI μ r0_23 (x2 + (w 1)).toNatClampNeg)] [.int (w 0)] μ11
      exact g_reti (by decide +kernel) rfl h
    | k + 4, hk, _ => exact absurd hk (by omega)
/-! FrostBoxModel timesOf(I)I -/
set_option maxRecDepth 100000 in
theorem B_MO_timesOf_0 {Γ : XG} {d : Nat} {Q : Option Value → XM → Prop} {r0 r0_23 : Nat} {x1 : Int32} {μ : XM} (o_r0_11 : ob μ r0 11) (e_r0_23 : xR μ r0 23 = some r0_23) (h : inb μ 0 r0_23 x1 ∧ ((xI μ r0_23 x1.toNatClampNeg = w 3 → inb μ 0 r0_23 (x1 + (w 1)) ∧ Q (some (.int (xI μ r0_23 (x1 + (w 1)).toNatClampNeg))) μ) ∧ (¬ xI μ r0_23 x1.toNatClampNeg = w 3 → Q (some (.int (w 1))) μ))) : G Γ m_MO_timesOf (d + 1) (0, 0) Q 0 [.ref r0, .int x1] [] μ := by
  obtain ⟨ib1, h⟩ := h
  refine run_ok (pc' := 7) [(.aload_n 0, 0, 0, 0), (.getfield 52, 11, 23, 2), (.iload_n 1, 0, 0, 0), (.iaload, 0, 0, 0), (.iconst 3, 0, 0, 0)] _ _ _ _ (by decide +kernel) ?_
  show _ ∧ (∃ _, _ ∧ (_ ∧ (_)))
  refine ⟨o_r0_11, r0_23, e_r0_23, ib1, ?_⟩
  show G Γ m_MO_timesOf (d + 1) (0, 0) Q 7 [.ref r0, .int x1] [.int (w 3), .int (xI μ r0_23 x1.toNatClampNeg)] μ
  refine g_icmp_ne (pc' := 21) (off := 14) (by decide) (by decide +kernel) (fun hc => ?_) (fun hc => ?_)
  · replace h := h.2 hc
    show G Γ m_MO_timesOf (d + 1) (0, 0) Q 21 [.ref r0, .int x1] [] μ
    refine run_ok (pc' := 22) [(.iconst 1, 0, 0, 0)] _ _ _ _ (by decide +kernel) ?_
    show G Γ m_MO_timesOf (d + 1) (0, 0) Q 22 [.ref r0, .int x1] [.int (w 1)] μ
    exact g_reti (by decide +kernel) rfl h
  · replace h := h.1 hc
    show G Γ m_MO_timesOf (d + 1) (0, 0) Q 10 [.ref r0, .int x1] [] μ
    obtain ⟨ib2, h⟩ := h
    refine run_ok (pc' := 22) [(.aload_n 0, 0, 0, 0), (.getfield 52, 11, 23, 2), (.iload_n 1, 0, 0, 0), (.iconst 1, 0, 0, 0), (.iadd, 0, 0, 0), (.iaload, 0, 0, 0), (.goto 4, 0, 0, 0)] _ _ _ _ (by decide +kernel) ?_
    show _ ∧ (∃ _, _ ∧ (_ ∧ (_)))
    refine ⟨o_r0_11, r0_23, e_r0_23, ib2, ?_⟩
    show G Γ m_MO_timesOf (d + 1) (0, 0) Q 22 [.ref r0, .int x1] [.int (xI μ r0_23 (x1 + (w 1)).toNatClampNeg)] μ
    exact g_reti (by decide +kernel) rfl h
/-! FrostBoxModel run(II)I -/
set_option maxRecDepth 100000 in
theorem lk_11_433 : LkS 11 433 m_MO_copy 2 := ⟨lc_MO_copy, lwG_in (List.mem_of_getElem? (i := 1749) rfl) rfl, lwG_in (List.mem_of_getElem? (i := 1750) rfl) rfl⟩
set_option maxRecDepth 100000 in
theorem lk_11_437 : LkV 11 437 m_MO_canStep 2 := ⟨lc_MO_canStep, lwG_in (List.mem_of_getElem? (i := 1752) rfl) rfl, lwG_in (List.mem_of_getElem? (i := 1754) rfl) rfl, lwG_in (List.mem_of_getElem? (i := 95) rfl) rfl⟩
set_option maxRecDepth 100000 in
theorem lk_11_443 : LkV 11 443 m_MO_steps 2 := ⟨lc_MO_steps, lwG_in (List.mem_of_getElem? (i := 1760) rfl) rfl, lwG_in (List.mem_of_getElem? (i := 1762) rfl) rfl, lwG_in (List.mem_of_getElem? (i := 97) rfl) rfl⟩
set_option maxRecDepth 100000 in
theorem lk_11_440 : LkV 11 440 m_MO_timesOf 1 := ⟨lc_MO_timesOf, lwG_in (List.mem_of_getElem? (i := 1756) rfl) rfl, lwG_in (List.mem_of_getElem? (i := 1758) rfl) rfl, lwG_in (List.mem_of_getElem? (i := 96) rfl) rfl⟩
set_option maxRecDepth 100000 in
theorem B_MO_run_0 {Γ : XG} {d : Nat} {Q : Option Value → XM → Prop} {r0 : Nat} {x1 x2 : Int32} {μ : XM} (o_r0_11 : ob μ r0 11) (h : ∀ μ1, μ1 = sI μ r0 0 (w 0) → Call Γ m_MO_isPlan d [.ref r0, .int x1] μ1 (KI (fun v2 μ2 => ((v2 = w 0 → Q (some (.int (w (-1000000)))) μ2) ∧ (¬ v2 = w 0 → ((xI μ2 r0 25 = w 0 → Q (some (.int (w (-1000000)))) μ2) ∧ (¬ xI μ2 r0 25 = w 0 → Call Γ m_MO_isIn d [.long (x2.toInt64), .long (wl 0), .long (wl 1)] μ2 (KI (fun v3 μ3 => ((v3 = w 0 → Q (some (.int (w (-1000000)))) μ3) ∧ (¬ v3 = w 0 → ∃ a4, xR μ3 r0 30 = some a4 ∧ ∃ a5, xR μ3 r0 31 = some a5 ∧ Call Γ m_MO_copy d [.ref a4, .ref a5] μ3 (KV (fun μ6 => G Γ m_MO_run (d + 1) (0, 0) Q 50 [.ref r0, .int x1, .int x2, .int (w 0), .int (w 0)] [] μ6))))))))))))) : G Γ m_MO_run (d + 1) (0, 0) Q 0 [.ref r0, .int x1, .int x2] [] μ := by
  refine run_ok (pc' := 5) [(.aload_n 0, 0, 0, 0), (.iconst 0, 0, 0, 0), (.putfield 109, 11, 0, 0)] _ _ _ _ (by decide +kernel) ?_
  show _ ∧ (_)
  refine ⟨o_r0_11, ?_⟩
  show G Γ m_MO_run (d + 1) (0, 0) Q 5 [.ref r0, .int x1, .int x2] [] (sI μ r0 0 (w 0))
  obtain ⟨μ1, em1⟩ : ∃ m : XM, m = sI μ r0 0 (w 0) := ⟨_, rfl⟩
  replace h := h μ1 em1
  have hm1 : xN μ ≤ xN μ1 := by rw [em1]; exact Nat.le_refl _
  rw [← em1]
  refine run_ok (pc' := 7) [(.aload_n 0, 0, 0, 0), (.iload_n 1, 0, 0, 0)] _ _ _ _ (by decide +kernel) ?_
  show G Γ m_MO_run (d + 1) (0, 0) Q 7 [.ref r0, .int x1, .int x2] [.int x1, .ref r0] μ1
  refine g_invV (M' := m_MO_isPlan) (b1 := 0) (b2 := 0) (As := [.int x1]) (a := r0) (st := []) lk_11_429 (by decide +kernel) rfl (dk_MO_isPlan d) (Nat.le_of_ble_eq_true rfl) (Or.inl ⟨11, ((o_r0_11).mono hm1), rfl⟩) h ?_
  rintro _ μ2 ⟨v2, rfl, h⟩ hn2
  show G Γ m_MO_run (d + 1) (0, 0) Q 10 [.ref r0, .int x1, .int x2] [.int v2] μ2
  refine g_ifz_eq (pc' := 30) (off := 20) (by decide) (by decide +kernel) (fun hc => ?_) (fun hc => ?_)
  · replace h := h.1 hc
    show G Γ m_MO_run (d + 1) (0, 0) Q 30 [.ref r0, .int x1, .int x2] [] μ2
    refine run_ok (pc' := 33) [(.ldc_w 432, 0, 0, (-1000000))] _ _ _ _ (by decide +kernel) ?_
    show G Γ m_MO_run (d + 1) (0, 0) Q 33 [.ref r0, .int x1, .int x2] [.int (w (-1000000))] μ2
    exact g_reti (by decide +kernel) rfl h
  · replace h := h.2 hc
    show G Γ m_MO_run (d + 1) (0, 0) Q 13 [.ref r0, .int x1, .int x2] [] μ2
    refine run_ok (pc' := 17) [(.aload_n 0, 0, 0, 0), (.getfield 307, 11, 25, 0)] _ _ _ _ (by decide +kernel) ?_
    show _ ∧ (_)
    refine ⟨(((o_r0_11).mono hm1).mono hn2), ?_⟩
    show G Γ m_MO_run (d + 1) (0, 0) Q 17 [.ref r0, .int x1, .int x2] [.int (xI μ2 r0 25)] μ2
    refine g_ifz_eq (pc' := 30) (off := 13) (by decide) (by decide +kernel) (fun hc => ?_) (fun hc => ?_)
    · replace h := h.1 hc
      show G Γ m_MO_run (d + 1) (0, 0) Q 30 [.ref r0, .int x1, .int x2] [] μ2
      refine run_ok (pc' := 33) [(.ldc_w 432, 0, 0, (-1000000))] _ _ _ _ (by decide +kernel) ?_
      show G Γ m_MO_run (d + 1) (0, 0) Q 33 [.ref r0, .int x1, .int x2] [.int (w (-1000000))] μ2
      exact g_reti (by decide +kernel) rfl h
    · replace h := h.2 hc
      show G Γ m_MO_run (d + 1) (0, 0) Q 20 [.ref r0, .int x1, .int x2] [] μ2
      refine run_ok (pc' := 24) [(.iload_n 2, 0, 0, 0), (.i2l, 0, 0, 0), (.lconst 0, 0, 0, 0), (.lconst 1, 0, 0, 1)] _ _ _ _ (by decide +kernel) ?_
      show G Γ m_MO_run (d + 1) (0, 0) Q 24 [.ref r0, .int x1, .int x2] [.long (wl 1), .long (wl 0), .long (x2.toInt64)] μ2
      refine g_invS (M' := m_MO_isIn) (b1 := 0) (b2 := 0) (As := [.long (x2.toInt64), .long (wl 0), .long (wl 1)]) (st := []) lk_11_230 (by decide +kernel) rfl (dk_MO_isIn d) (Nat.le_of_ble_eq_true rfl) h ?_
      rintro _ μ3 ⟨v3, rfl, h⟩ hn3
      show G Γ m_MO_run (d + 1) (0, 0) Q 27 [.ref r0, .int x1, .int x2] [.int v3] μ3
      refine g_ifz_ne (pc' := 34) (off := 7) (by decide) (by decide +kernel) (fun hc => ?_) (fun hc => ?_)
      · replace h := h.2 hc
        show G Γ m_MO_run (d + 1) (0, 0) Q 34 [.ref r0, .int x1, .int x2] [] μ3
        obtain ⟨a4, ea4, h⟩ := h
        obtain ⟨a5, ea5, h⟩ := h
        refine run_ok (pc' := 42) [(.aload_n 0, 0, 0, 0), (.getfield 58, 11, 30, 2), (.aload_n 0, 0, 0, 0), (.getfield 61, 11, 31, 2)] _ _ _ _ (by decide +kernel) ?_
        show _ ∧ (∃ _, _ ∧ (_ ∧ (∃ _, _ ∧ (_))))
        refine ⟨((((o_r0_11).mono hm1).mono hn2).mono hn3), a4, ea4, ((((o_r0_11).mono hm1).mono hn2).mono hn3), a5, ea5, ?_⟩
        show G Γ m_MO_run (d + 1) (0, 0) Q 42 [.ref r0, .int x1, .int x2] [.ref a5, .ref a4] μ3
        refine g_invS (M' := m_MO_copy) (b1 := 0) (b2 := 0) (As := [.ref a4, .ref a5]) (st := []) lk_11_433 (by decide +kernel) rfl (dk_MO_copy d) (Nat.le_of_ble_eq_true rfl) h ?_
        rintro _ μ6 ⟨rfl, h⟩ hn6
        show G Γ m_MO_run (d + 1) (0, 0) Q 45 [.ref r0, .int x1, .int x2] [] μ6
        refine run_ok (pc' := 50) [(.iconst 0, 0, 0, 0), (.istore_n 3, 0, 0, 0), (.iconst 0, 0, 0, 0), (.istore 4, 0, 0, 0)] _ _ _ _ (by decide +kernel) ?_
        show G Γ m_MO_run (d + 1) (0, 0) Q 50 [.ref r0, .int x1, .int x2, .int (w 0), .int (w 0)] [] μ6
        exact h
      · replace h := h.1 hc
        show G Γ m_MO_run (d + 1) (0, 0) Q 30 [.ref r0, .int x1, .int x2] [] μ3
        refine run_ok (pc' := 33) [(.ldc_w 432, 0, 0, (-1000000))] _ _ _ _ (by decide +kernel) ?_
        show G Γ m_MO_run (d + 1) (0, 0) Q 33 [.ref r0, .int x1, .int x2] [.int (w (-1000000))] μ3
        exact g_reti (by decide +kernel) rfl h
set_option maxRecDepth 100000 in
theorem B_MO_run_50 {Γ : XG} {d : Nat} {Q : Option Value → XM → Prop} {r0 r0_24 r0_31 : Nat} {x1 x2 x3 x4 : Int32} {μ : XM} (o_r0_11 : ob μ r0 11) (e_r0_24 : xR μ r0 24 = some r0_24) (e_r0_31 : xR μ r0 31 = some r0_31) (h : inb μ 0 r0_24 x1 ∧ ((x3 < xI μ r0_24 x1.toNatClampNeg → Call Γ m_MO_canStep d [.ref r0, .ref r0_31, .int ((w 4) * (((w 16) * x1) + x3))] μ (KI (fun v3 μ3 => ((v3 = w 0 → ((x2 = w 1 → Q (some (.int x4)) μ3) ∧ (¬ x2 = w 1 → xR μ3 r0 24 = some r0_24 ∧ inb μ3 0 r0_24 x1 ∧ ((x3 = xI μ3 r0_24 x1.toNatClampNeg → Q (some (.int (w (-1)))) μ3) ∧ (¬ x3 = xI μ3 r0_24 x1.toNatClampNeg → Q (some (.int x3)) μ3))))) ∧ (¬ v3 = w 0 → G Γ m_MO_run (d + 1) (0, 0) Q 92 [.ref r0, .int x1, .int x2, .int x3, .int x4, .int ((w 4) * (((w 16) * x1) + x3)), .int (w 0)] [] μ3))))) ∧ (¬ x3 < xI μ r0_24 x1.toNatClampNeg → ((x2 = w 1 → Q (some (.int x4)) μ) ∧ (¬ x2 = w 1 → inb μ 0 r0_24 x1 ∧ ((x3 = xI μ r0_24 x1.toNatClampNeg → Q (some (.int (w (-1)))) μ) ∧ (¬ x3 = xI μ r0_24 x1.toNatClampNeg → Q (some (.int x3)) μ))))))) : G Γ m_MO_run (d + 1) (0, 0) Q 50 [.ref r0, .int x1, .int x2, .int x3, .int x4] [] μ := by
  obtain ⟨ib1, h⟩ := h
  refine run_ok (pc' := 57) [(.iload_n 3, 0, 0, 0), (.aload_n 0, 0, 0, 0), (.getfield 55, 11, 24, 2), (.iload_n 1, 0, 0, 0), (.iaload, 0, 0, 0)] _ _ _ _ (by decide +kernel) ?_
  show _ ∧ (∃ _, _ ∧ (_ ∧ (_)))
  refine ⟨o_r0_11, r0_24, e_r0_24, ib1, ?_⟩
  show G Γ m_MO_run (d + 1) (0, 0) Q 57 [.ref r0, .int x1, .int x2, .int x3, .int x4] [.int (xI μ r0_24 x1.toNatClampNeg), .int x3] μ
  refine g_icmp_ge (pc' := 130) (off := 73) (by decide) (by decide +kernel) (fun hc => ?_) (fun hc => ?_)
  · replace h := h.2 hc
    show G Γ m_MO_run (d + 1) (0, 0) Q 130 [.ref r0, .int x1, .int x2, .int x3, .int x4] [] μ
    refine run_ok (pc' := 132) [(.iload_n 2, 0, 0, 0), (.iconst 1, 0, 0, 0)] _ _ _ _ (by decide +kernel) ?_
    show G Γ m_MO_run (d + 1) (0, 0) Q 132 [.ref r0, .int x1, .int x2, .int x3, .int x4] [.int (w 1), .int x2] μ
    refine g_icmp_ne (pc' := 138) (off := 6) (by decide) (by decide +kernel) (fun hc => ?_) (fun hc => ?_)
    · replace h := h.2 hc
      show G Γ m_MO_run (d + 1) (0, 0) Q 138 [.ref r0, .int x1, .int x2, .int x3, .int x4] [] μ
      obtain ⟨ib2, h⟩ := h
      refine run_ok (pc' := 145) [(.iload_n 3, 0, 0, 0), (.aload_n 0, 0, 0, 0), (.getfield 55, 11, 24, 2), (.iload_n 1, 0, 0, 0), (.iaload, 0, 0, 0)] _ _ _ _ (by decide +kernel) ?_
      show _ ∧ (∃ _, _ ∧ (_ ∧ (_)))
      refine ⟨o_r0_11, r0_24, e_r0_24, ib2, ?_⟩
      show G Γ m_MO_run (d + 1) (0, 0) Q 145 [.ref r0, .int x1, .int x2, .int x3, .int x4] [.int (xI μ r0_24 x1.toNatClampNeg), .int x3] μ
      refine g_icmp_ne (pc' := 152) (off := 7) (by decide) (by decide +kernel) (fun hc => ?_) (fun hc => ?_)
      · replace h := h.2 hc
        show G Γ m_MO_run (d + 1) (0, 0) Q 152 [.ref r0, .int x1, .int x2, .int x3, .int x4] [] μ
        refine run_ok (pc' := 153) [(.iload_n 3, 0, 0, 0)] _ _ _ _ (by decide +kernel) ?_
        show G Γ m_MO_run (d + 1) (0, 0) Q 153 [.ref r0, .int x1, .int x2, .int x3, .int x4] [.int x3] μ
        exact g_reti (by decide +kernel) rfl h
      · replace h := h.1 hc
        show G Γ m_MO_run (d + 1) (0, 0) Q 148 [.ref r0, .int x1, .int x2, .int x3, .int x4] [] μ
        refine run_ok (pc' := 153) [(.iconst (-1), 0, 0, 0), (.goto 4, 0, 0, 0)] _ _ _ _ (by decide +kernel) ?_
        show G Γ m_MO_run (d + 1) (0, 0) Q 153 [.ref r0, .int x1, .int x2, .int x3, .int x4] [.int (w (-1))] μ
        exact g_reti (by decide +kernel) rfl h
    · replace h := h.1 hc
      show G Γ m_MO_run (d + 1) (0, 0) Q 135 [.ref r0, .int x1, .int x2, .int x3, .int x4] [] μ
      refine run_ok (pc' := 137) [(.iload 4, 0, 0, 0)] _ _ _ _ (by decide +kernel) ?_
      show G Γ m_MO_run (d + 1) (0, 0) Q 137 [.ref r0, .int x1, .int x2, .int x3, .int x4] [.int x4] μ
      exact g_reti (by decide +kernel) rfl h
  · replace h := h.1 hc
    show G Γ m_MO_run (d + 1) (0, 0) Q 60 [.ref r0, .int x1, .int x2, .int x3, .int x4] [] μ
    refine run_ok (pc' := 73) [(.aload_n 0, 0, 0, 0), (.aload_n 0, 0, 0, 0), (.getfield 61, 11, 31, 2), (.iconst 4, 0, 0, 0), (.bipush 16, 0, 0, 0), (.iload_n 1, 0, 0, 0), (.imul, 0, 0, 0), (.iload_n 3, 0, 0, 0), (.iadd, 0, 0, 0), (.imul, 0, 0, 0)] _ _ _ _ (by decide +kernel) ?_
    show _ ∧ (∃ _, _ ∧ (_))
    refine ⟨o_r0_11, r0_31, e_r0_31, ?_⟩
    show G Γ m_MO_run (d + 1) (0, 0) Q 73 [.ref r0, .int x1, .int x2, .int x3, .int x4] [.int ((w 4) * (((w 16) * x1) + x3)), .ref r0_31, .ref r0] μ
    refine g_invV (M' := m_MO_canStep) (b1 := 0) (b2 := 0) (As := [.ref r0_31, .int ((w 4) * (((w 16) * x1) + x3))]) (a := r0) (st := []) lk_11_437 (by decide +kernel) rfl (dk_MO_canStep d) (Nat.le_of_ble_eq_true rfl) (Or.inl ⟨11, o_r0_11, rfl⟩) h ?_
    rintro _ μ3 ⟨v3, rfl, h⟩ hn3
    show G Γ m_MO_run (d + 1) (0, 0) Q 76 [.ref r0, .int x1, .int x2, .int x3, .int x4] [.int v3] μ3
    refine g_ifz_eq (pc' := 130) (off := 54) (by decide) (by decide +kernel) (fun hc => ?_) (fun hc => ?_)
    · replace h := h.1 hc
      show G Γ m_MO_run (d + 1) (0, 0) Q 130 [.ref r0, .int x1, .int x2, .int x3, .int x4] [] μ3
      refine run_ok (pc' := 132) [(.iload_n 2, 0, 0, 0), (.iconst 1, 0, 0, 0)] _ _ _ _ (by decide +kernel) ?_
      show G Γ m_MO_run (d + 1) (0, 0) Q 132 [.ref r0, .int x1, .int x2, .int x3, .int x4] [.int (w 1), .int x2] μ3
      refine g_icmp_ne (pc' := 138) (off := 6) (by decide) (by decide +kernel) (fun hc => ?_) (fun hc => ?_)
      · replace h := h.2 hc
        show G Γ m_MO_run (d + 1) (0, 0) Q 138 [.ref r0, .int x1, .int x2, .int x3, .int x4] [] μ3
        obtain ⟨ea4, h⟩ := h
        obtain ⟨ib5, h⟩ := h
        refine run_ok (pc' := 145) [(.iload_n 3, 0, 0, 0), (.aload_n 0, 0, 0, 0), (.getfield 55, 11, 24, 2), (.iload_n 1, 0, 0, 0), (.iaload, 0, 0, 0)] _ _ _ _ (by decide +kernel) ?_
        show _ ∧ (∃ _, _ ∧ (_ ∧ (_)))
        refine ⟨((o_r0_11).mono hn3), r0_24, ea4, ib5, ?_⟩
        show G Γ m_MO_run (d + 1) (0, 0) Q 145 [.ref r0, .int x1, .int x2, .int x3, .int x4] [.int (xI μ3 r0_24 x1.toNatClampNeg), .int x3] μ3
        refine g_icmp_ne (pc' := 152) (off := 7) (by decide) (by decide +kernel) (fun hc => ?_) (fun hc => ?_)
        · replace h := h.2 hc
          show G Γ m_MO_run (d + 1) (0, 0) Q 152 [.ref r0, .int x1, .int x2, .int x3, .int x4] [] μ3
          refine run_ok (pc' := 153) [(.iload_n 3, 0, 0, 0)] _ _ _ _ (by decide +kernel) ?_
          show G Γ m_MO_run (d + 1) (0, 0) Q 153 [.ref r0, .int x1, .int x2, .int x3, .int x4] [.int x3] μ3
          exact g_reti (by decide +kernel) rfl h
        · replace h := h.1 hc
          show G Γ m_MO_run (d + 1) (0, 0) Q 148 [.ref r0, .int x1, .int x2, .int x3, .int x4] [] μ3
          refine run_ok (pc' := 153) [(.iconst (-1), 0, 0, 0), (.goto 4, 0, 0, 0)] _ _ _ _ (by decide +kernel) ?_
          show G Γ m_MO_run (d + 1) (0, 0) Q 153 [.ref r0, .int x1, .int x2, .int x3, .int x4] [.int (w (-1))] μ3
          exact g_reti (by decide +kernel) rfl h
      · replace h := h.1 hc
        show G Γ m_MO_run (d + 1) (0, 0) Q 135 [.ref r0, .int x1, .int x2, .int x3, .int x4] [] μ3
        refine run_ok (pc' := 137) [(.iload 4, 0, 0, 0)] _ _ _ _ (by decide +kernel) ?_
        show G Γ m_MO_run (d + 1) (0, 0) Q 137 [.ref r0, .int x1, .int x2, .int x3, .int x4] [.int x4] μ3
        exact g_reti (by decide +kernel) rfl h
    · replace h := h.2 hc
      show G Γ m_MO_run (d + 1) (0, 0) Q 79 [.ref r0, .int x1, .int x2, .int x3, .int x4] [] μ3
      refine run_ok (pc' := 92) [(.iconst 4, 0, 0, 0), (.bipush 16, 0, 0, 0), (.iload_n 1, 0, 0, 0), (.imul, 0, 0, 0), (.iload_n 3, 0, 0, 0), (.iadd, 0, 0, 0), (.imul, 0, 0, 0), (.istore 5, 0, 0, 0), (.iconst 0, 0, 0, 0), (.istore 6, 0, 0, 0)] _ _ _ _ (by decide +kernel) ?_
      show G Γ m_MO_run (d + 1) (0, 0) Q 92 [.ref r0, .int x1, .int x2, .int x3, .int x4, .int ((w 4) * (((w 16) * x1) + x3)), .int (w 0)] [] μ3
      exact h
set_option maxRecDepth 100000 in
theorem B_MO_run_92 {Γ : XG} {d : Nat} {Q : Option Value → XM → Prop} {r0 : Nat} {x1 x2 x3 x4 x5 x6 : Int32} {μ : XM} (o_r0_11 : ob μ r0 11) (h : Call Γ m_MO_timesOf d [.ref r0, .int x5] μ (KI (fun v1 μ1 => ((x6 < v1 → ∃ a2, xR μ1 r0 31 = some a2 ∧ Call Γ m_MO_steps d [.ref r0, .ref a2, .int x5] μ1 (KI (fun v3 μ3 => G Γ m_MO_run (d + 1) (0, 0) Q 92 [.ref r0, .int x1, .int x2, .int x3, .int (x4 + v3), .int x5, .int (x6 + w 1)] [] μ3))) ∧ (¬ x6 < v1 → G Γ m_MO_run (d + 1) (0, 0) Q 50 [.ref r0, .int x1, .int x2, .int (x3 + w 1), .int x4] [] μ1))))) : G Γ m_MO_run (d + 1) (0, 0) Q 92 [.ref r0, .int x1, .int x2, .int x3, .int x4, .int x5, .int x6] [] μ := by
  refine run_ok (pc' := 97) [(.iload 6, 0, 0, 0), (.aload_n 0, 0, 0, 0), (.iload 5, 0, 0, 0)] _ _ _ _ (by decide +kernel) ?_
  show G Γ m_MO_run (d + 1) (0, 0) Q 97 [.ref r0, .int x1, .int x2, .int x3, .int x4, .int x5, .int x6] [.int x5, .ref r0, .int x6] μ
  refine g_invV (M' := m_MO_timesOf) (b1 := 0) (b2 := 0) (As := [.int x5]) (a := r0) (st := [.int x6]) lk_11_440 (by decide +kernel) rfl (dk_MO_timesOf d) (Nat.le_of_ble_eq_true rfl) (Or.inl ⟨11, o_r0_11, rfl⟩) h ?_
  rintro _ μ1 ⟨v1, rfl, h⟩ hn1
  show G Γ m_MO_run (d + 1) (0, 0) Q 100 [.ref r0, .int x1, .int x2, .int x3, .int x4, .int x5, .int x6] [.int v1, .int x6] μ1
  refine g_icmp_ge (pc' := 124) (off := 24) (by decide) (by decide +kernel) (fun hc => ?_) (fun hc => ?_)
  · replace h := h.2 hc
    show G Γ m_MO_run (d + 1) (0, 0) Q 124 [.ref r0, .int x1, .int x2, .int x3, .int x4, .int x5, .int x6] [] μ1
    refine run_ok (pc' := 50) [(.iinc 3 1, 0, 0, 0), (.goto (-77), 0, 0, 0)] _ _ _ _ (by decide +kernel) ?_
    show G Γ m_MO_run (d + 1) (0, 0) Q 50 [.ref r0, .int x1, .int x2, .int (x3 + w 1), .int x4, .int x5, .int x6] [] μ1
    exact g_wk (ls' := [.ref r0, .int x1, .int x2, .int (x3 + w 1), .int x4]) ⟨Or.inr rfl, Or.inr rfl, Or.inr rfl, Or.inr rfl, Or.inr rfl, trivial⟩ h
  · replace h := h.1 hc
    show G Γ m_MO_run (d + 1) (0, 0) Q 103 [.ref r0, .int x1, .int x2, .int x3, .int x4, .int x5, .int x6] [] μ1
    obtain ⟨a2, ea2, h⟩ := h
    refine run_ok (pc' := 112) [(.iload 4, 0, 0, 0), (.aload_n 0, 0, 0, 0), (.aload_n 0, 0, 0, 0), (.getfield 61, 11, 31, 2), (.iload 5, 0, 0, 0)] _ _ _ _ (by decide +kernel) ?_
    show _ ∧ (∃ _, _ ∧ (_))
    refine ⟨((o_r0_11).mono hn1), a2, ea2, ?_⟩
    show G Γ m_MO_run (d + 1) (0, 0) Q 112 [.ref r0, .int x1, .int x2, .int x3, .int x4, .int x5, .int x6] [.int x5, .ref a2, .ref r0, .int x4] μ1
    refine g_invV (M' := m_MO_steps) (b1 := 0) (b2 := 0) (As := [.ref a2, .int x5]) (a := r0) (st := [.int x4]) lk_11_443 (by decide +kernel) rfl (dk_MO_steps d) (Nat.le_of_ble_eq_true rfl) (Or.inl ⟨11, ((o_r0_11).mono hn1), rfl⟩) h ?_
    rintro _ μ3 ⟨v3, rfl, h⟩ hn3
    show G Γ m_MO_run (d + 1) (0, 0) Q 115 [.ref r0, .int x1, .int x2, .int x3, .int x4, .int x5, .int x6] [.int v3, .int x4] μ3
    refine run_ok (pc' := 92) [(.iadd, 0, 0, 0), (.istore 4, 0, 0, 0), (.iinc 6 1, 0, 0, 0), (.goto (-29), 0, 0, 0)] _ _ _ _ (by decide +kernel) ?_
    show G Γ m_MO_run (d + 1) (0, 0) Q 92 [.ref r0, .int x1, .int x2, .int x3, .int (x4 + v3), .int x5, .int (x6 + w 1)] [] μ3
    exact h
/-! FrostBoxModel perform(I)I -/
set_option maxRecDepth 100000 in
theorem B_MO_perform_0 {Γ : XG} {d : Nat} {Q : Option Value → XM → Prop} {r0 : Nat} {x1 : Int32} {μ : XM} (o_r0_11 : ob μ r0 11) (h : ∀ μ1, μ1 = sI μ r0 0 (w 0) → Call Γ m_MO_isPlan d [.ref r0, .int x1] μ1 (KI (fun v2 μ2 => ((v2 = w 0 → Q (some (.int (w (-1)))) μ2) ∧ (¬ v2 = w 0 → ((xI μ2 r0 25 = w 0 → Q (some (.int (w (-1)))) μ2) ∧ (¬ xI μ2 r0 25 = w 0 → G Γ m_MO_perform (d + 1) (0, 0) Q 24 [.ref r0, .int x1, .int (w 0)] [] μ2))))))) : G Γ m_MO_perform (d + 1) (0, 0) Q 0 [.ref r0, .int x1] [] μ := by
  refine run_ok (pc' := 5) [(.aload_n 0, 0, 0, 0), (.iconst 0, 0, 0, 0), (.putfield 109, 11, 0, 0)] _ _ _ _ (by decide +kernel) ?_
  show _ ∧ (_)
  refine ⟨o_r0_11, ?_⟩
  show G Γ m_MO_perform (d + 1) (0, 0) Q 5 [.ref r0, .int x1] [] (sI μ r0 0 (w 0))
  obtain ⟨μ1, em1⟩ : ∃ m : XM, m = sI μ r0 0 (w 0) := ⟨_, rfl⟩
  replace h := h μ1 em1
  have hm1 : xN μ ≤ xN μ1 := by rw [em1]; exact Nat.le_refl _
  rw [← em1]
  refine run_ok (pc' := 7) [(.aload_n 0, 0, 0, 0), (.iload_n 1, 0, 0, 0)] _ _ _ _ (by decide +kernel) ?_
  show G Γ m_MO_perform (d + 1) (0, 0) Q 7 [.ref r0, .int x1] [.int x1, .ref r0] μ1
  refine g_invV (M' := m_MO_isPlan) (b1 := 0) (b2 := 0) (As := [.int x1]) (a := r0) (st := []) lk_11_429 (by decide +kernel) rfl (dk_MO_isPlan d) (Nat.le_of_ble_eq_true rfl) (Or.inl ⟨11, ((o_r0_11).mono hm1), rfl⟩) h ?_
  rintro _ μ2 ⟨v2, rfl, h⟩ hn2
  show G Γ m_MO_perform (d + 1) (0, 0) Q 10 [.ref r0, .int x1] [.int v2] μ2
  refine g_ifz_eq (pc' := 20) (off := 10) (by decide) (by decide +kernel) (fun hc => ?_) (fun hc => ?_)
  · replace h := h.1 hc
    show G Γ m_MO_perform (d + 1) (0, 0) Q 20 [.ref r0, .int x1] [] μ2
    refine run_ok (pc' := 21) [(.iconst (-1), 0, 0, 0)] _ _ _ _ (by decide +kernel) ?_
    show G Γ m_MO_perform (d + 1) (0, 0) Q 21 [.ref r0, .int x1] [.int (w (-1))] μ2
    exact g_reti (by decide +kernel) rfl h
  · replace h := h.2 hc
    show G Γ m_MO_perform (d + 1) (0, 0) Q 13 [.ref r0, .int x1] [] μ2
    refine run_ok (pc' := 17) [(.aload_n 0, 0, 0, 0), (.getfield 307, 11, 25, 0)] _ _ _ _ (by decide +kernel) ?_
    show _ ∧ (_)
    refine ⟨(((o_r0_11).mono hm1).mono hn2), ?_⟩
    show G Γ m_MO_perform (d + 1) (0, 0) Q 17 [.ref r0, .int x1] [.int (xI μ2 r0 25)] μ2
    refine g_ifz_ne (pc' := 22) (off := 5) (by decide) (by decide +kernel) (fun hc => ?_) (fun hc => ?_)
    · replace h := h.2 hc
      show G Γ m_MO_perform (d + 1) (0, 0) Q 22 [.ref r0, .int x1] [] μ2
      refine run_ok (pc' := 24) [(.iconst 0, 0, 0, 0), (.istore_n 2, 0, 0, 0)] _ _ _ _ (by decide +kernel) ?_
      show G Γ m_MO_perform (d + 1) (0, 0) Q 24 [.ref r0, .int x1, .int (w 0)] [] μ2
      exact h
    · replace h := h.1 hc
      show G Γ m_MO_perform (d + 1) (0, 0) Q 20 [.ref r0, .int x1] [] μ2
      refine run_ok (pc' := 21) [(.iconst (-1), 0, 0, 0)] _ _ _ _ (by decide +kernel) ?_
      show G Γ m_MO_perform (d + 1) (0, 0) Q 21 [.ref r0, .int x1] [.int (w (-1))] μ2
      exact g_reti (by decide +kernel) rfl h
set_option maxRecDepth 100000 in
theorem B_MO_perform_24 {Γ : XG} {d : Nat} {Q : Option Value → XM → Prop} {r0 r0_24 r0_30 : Nat} {x1 x2 : Int32} {μ : XM} (o_r0_11 : ob μ r0 11) (e_r0_24 : xR μ r0 24 = some r0_24) (e_r0_30 : xR μ r0 30 = some r0_30) (h : inb μ 0 r0_24 x1 ∧ ((x2 < xI μ r0_24 x1.toNatClampNeg → Call Γ m_MO_canStep d [.ref r0, .ref r0_30, .int ((w 4) * (((w 16) * x1) + x2))] μ (KI (fun v2 μ2 => ((v2 = w 0 → Q (some (.int x2)) μ2) ∧ (¬ v2 = w 0 → G Γ m_MO_perform (d + 1) (0, 0) Q 65 [.ref r0, .int x1, .int x2, .int ((w 4) * (((w 16) * x1) + x2)), .int (w 0)] [] μ2))))) ∧ (¬ x2 < xI μ r0_24 x1.toNatClampNeg → Q (some (.int x2)) μ))) : G Γ m_MO_perform (d + 1) (0, 0) Q 24 [.ref r0, .int x1, .int x2] [] μ := by
  obtain ⟨ib1, h⟩ := h
  refine run_ok (pc' := 31) [(.iload_n 2, 0, 0, 0), (.aload_n 0, 0, 0, 0), (.getfield 55, 11, 24, 2), (.iload_n 1, 0, 0, 0), (.iaload, 0, 0, 0)] _ _ _ _ (by decide +kernel) ?_
  show _ ∧ (∃ _, _ ∧ (_ ∧ (_)))
  refine ⟨o_r0_11, r0_24, e_r0_24, ib1, ?_⟩
  show G Γ m_MO_perform (d + 1) (0, 0) Q 31 [.ref r0, .int x1, .int x2] [.int (xI μ r0_24 x1.toNatClampNeg), .int x2] μ
  refine g_icmp_ge (pc' := 102) (off := 71) (by decide) (by decide +kernel) (fun hc => ?_) (fun hc => ?_)
  · replace h := h.2 hc
    show G Γ m_MO_perform (d + 1) (0, 0) Q 102 [.ref r0, .int x1, .int x2] [] μ
    refine run_ok (pc' := 103) [(.iload_n 2, 0, 0, 0)] _ _ _ _ (by decide +kernel) ?_
    show G Γ m_MO_perform (d + 1) (0, 0) Q 103 [.ref r0, .int x1, .int x2] [.int x2] μ
    exact g_reti (by decide +kernel) rfl h
  · replace h := h.1 hc
    show G Γ m_MO_perform (d + 1) (0, 0) Q 34 [.ref r0, .int x1, .int x2] [] μ
    refine run_ok (pc' := 47) [(.aload_n 0, 0, 0, 0), (.aload_n 0, 0, 0, 0), (.getfield 58, 11, 30, 2), (.iconst 4, 0, 0, 0), (.bipush 16, 0, 0, 0), (.iload_n 1, 0, 0, 0), (.imul, 0, 0, 0), (.iload_n 2, 0, 0, 0), (.iadd, 0, 0, 0), (.imul, 0, 0, 0)] _ _ _ _ (by decide +kernel) ?_
    show _ ∧ (∃ _, _ ∧ (_))
    refine ⟨o_r0_11, r0_30, e_r0_30, ?_⟩
    show G Γ m_MO_perform (d + 1) (0, 0) Q 47 [.ref r0, .int x1, .int x2] [.int ((w 4) * (((w 16) * x1) + x2)), .ref r0_30, .ref r0] μ
    refine g_invV (M' := m_MO_canStep) (b1 := 0) (b2 := 0) (As := [.ref r0_30, .int ((w 4) * (((w 16) * x1) + x2))]) (a := r0) (st := []) lk_11_437 (by decide +kernel) rfl (dk_MO_canStep d) (Nat.le_of_ble_eq_true rfl) (Or.inl ⟨11, o_r0_11, rfl⟩) h ?_
    rintro _ μ2 ⟨v2, rfl, h⟩ hn2
    show G Γ m_MO_perform (d + 1) (0, 0) Q 50 [.ref r0, .int x1, .int x2] [.int v2] μ2
    refine g_ifz_eq (pc' := 102) (off := 52) (by decide) (by decide +kernel) (fun hc => ?_) (fun hc => ?_)
    · replace h := h.1 hc
      show G Γ m_MO_perform (d + 1) (0, 0) Q 102 [.ref r0, .int x1, .int x2] [] μ2
      refine run_ok (pc' := 103) [(.iload_n 2, 0, 0, 0)] _ _ _ _ (by decide +kernel) ?_
      show G Γ m_MO_perform (d + 1) (0, 0) Q 103 [.ref r0, .int x1, .int x2] [.int x2] μ2
      exact g_reti (by decide +kernel) rfl h
    · replace h := h.2 hc
      show G Γ m_MO_perform (d + 1) (0, 0) Q 53 [.ref r0, .int x1, .int x2] [] μ2
      refine run_ok (pc' := 65) [(.iconst 4, 0, 0, 0), (.bipush 16, 0, 0, 0), (.iload_n 1, 0, 0, 0), (.imul, 0, 0, 0), (.iload_n 2, 0, 0, 0), (.iadd, 0, 0, 0), (.imul, 0, 0, 0), (.istore_n 3, 0, 0, 0), (.iconst 0, 0, 0, 0), (.istore 4, 0, 0, 0)] _ _ _ _ (by decide +kernel) ?_
      show G Γ m_MO_perform (d + 1) (0, 0) Q 65 [.ref r0, .int x1, .int x2, .int ((w 4) * (((w 16) * x1) + x2)), .int (w 0)] [] μ2
      exact h
set_option maxRecDepth 100000 in
theorem B_MO_perform_65 {Γ : XG} {d : Nat} {Q : Option Value → XM → Prop} {r0 : Nat} {x1 x2 x3 x4 : Int32} {μ : XM} (o_r0_11 : ob μ r0 11) (h : Call Γ m_MO_timesOf d [.ref r0, .int x3] μ (KI (fun v1 μ1 => ((x4 < v1 → Call Γ m_MO_remember d [.ref r0] μ1 (KV (fun μ2 => ∃ a3, xR μ2 r0 30 = some a3 ∧ Call Γ m_MO_steps d [.ref r0, .ref a3, .int x3] μ2 (KI (fun v4 μ4 => G Γ m_MO_perform (d + 1) (0, 0) Q 65 [.ref r0, .int x1, .int x2, .int x3, .int (x4 + w 1)] [] μ4))))) ∧ (¬ x4 < v1 → G Γ m_MO_perform (d + 1) (0, 0) Q 24 [.ref r0, .int x1, .int (x2 + w 1)] [] μ1))))) : G Γ m_MO_perform (d + 1) (0, 0) Q 65 [.ref r0, .int x1, .int x2, .int x3, .int x4] [] μ := by
  refine run_ok (pc' := 69) [(.iload 4, 0, 0, 0), (.aload_n 0, 0, 0, 0), (.iload_n 3, 0, 0, 0)] _ _ _ _ (by decide +kernel) ?_
  show G Γ m_MO_perform (d + 1) (0, 0) Q 69 [.ref r0, .int x1, .int x2, .int x3, .int x4] [.int x3, .ref r0, .int x4] μ
  refine g_invV (M' := m_MO_timesOf) (b1 := 0) (b2 := 0) (As := [.int x3]) (a := r0) (st := [.int x4]) lk_11_440 (by decide +kernel) rfl (dk_MO_timesOf d) (Nat.le_of_ble_eq_true rfl) (Or.inl ⟨11, o_r0_11, rfl⟩) h ?_
  rintro _ μ1 ⟨v1, rfl, h⟩ hn1
  show G Γ m_MO_perform (d + 1) (0, 0) Q 72 [.ref r0, .int x1, .int x2, .int x3, .int x4] [.int v1, .int x4] μ1
  refine g_icmp_ge (pc' := 96) (off := 24) (by decide) (by decide +kernel) (fun hc => ?_) (fun hc => ?_)
  · replace h := h.2 hc
    show G Γ m_MO_perform (d + 1) (0, 0) Q 96 [.ref r0, .int x1, .int x2, .int x3, .int x4] [] μ1
    refine run_ok (pc' := 24) [(.iinc 2 1, 0, 0, 0), (.goto (-75), 0, 0, 0)] _ _ _ _ (by decide +kernel) ?_
    show G Γ m_MO_perform (d + 1) (0, 0) Q 24 [.ref r0, .int x1, .int (x2 + w 1), .int x3, .int x4] [] μ1
    exact g_wk (ls' := [.ref r0, .int x1, .int (x2 + w 1)]) ⟨Or.inr rfl, Or.inr rfl, Or.inr rfl, trivial⟩ h
  · replace h := h.1 hc
    show G Γ m_MO_perform (d + 1) (0, 0) Q 75 [.ref r0, .int x1, .int x2, .int x3, .int x4] [] μ1
    refine run_ok (pc' := 76) [(.aload_n 0, 0, 0, 0)] _ _ _ _ (by decide +kernel) ?_
    show G Γ m_MO_perform (d + 1) (0, 0) Q 76 [.ref r0, .int x1, .int x2, .int x3, .int x4] [.ref r0] μ1
    refine g_invV (M' := m_MO_remember) (b1 := 0) (b2 := 0) (As := []) (a := r0) (st := []) lk_11_380 (by decide +kernel) rfl (dk_MO_remember d) (Nat.le_of_ble_eq_true rfl) (Or.inl ⟨11, ((o_r0_11).mono hn1), rfl⟩) h ?_
    rintro _ μ2 ⟨rfl, h⟩ hn2
    show G Γ m_MO_perform (d + 1) (0, 0) Q 79 [.ref r0, .int x1, .int x2, .int x3, .int x4] [] μ2
    obtain ⟨a3, ea3, h⟩ := h
    refine run_ok (pc' := 85) [(.aload_n 0, 0, 0, 0), (.aload_n 0, 0, 0, 0), (.getfield 58, 11, 30, 2), (.iload_n 3, 0, 0, 0)] _ _ _ _ (by decide +kernel) ?_
    show _ ∧ (∃ _, _ ∧ (_))
    refine ⟨(((o_r0_11).mono hn1).mono hn2), a3, ea3, ?_⟩
    show G Γ m_MO_perform (d + 1) (0, 0) Q 85 [.ref r0, .int x1, .int x2, .int x3, .int x4] [.int x3, .ref a3, .ref r0] μ2
    refine g_invV (M' := m_MO_steps) (b1 := 0) (b2 := 0) (As := [.ref a3, .int x3]) (a := r0) (st := []) lk_11_443 (by decide +kernel) rfl (dk_MO_steps d) (Nat.le_of_ble_eq_true rfl) (Or.inl ⟨11, (((o_r0_11).mono hn1).mono hn2), rfl⟩) h ?_
    rintro _ μ4 ⟨v4, rfl, h⟩ hn4
    show G Γ m_MO_perform (d + 1) (0, 0) Q 88 [.ref r0, .int x1, .int x2, .int x3, .int x4] [.int v4] μ4
    refine run_ok (pc' := 65) [(.istore 5, 0, 0, 0), (.iinc 4 1, 0, 0, 0), (.goto (-28), 0, 0, 0)] _ _ _ _ (by decide +kernel) ?_
    show G Γ m_MO_perform (d + 1) (0, 0) Q 65 [.ref r0, .int x1, .int x2, .int x3, .int (x4 + w 1), .int v4] [] μ4
    exact g_wk (ls' := [.ref r0, .int x1, .int x2, .int x3, .int (x4 + w 1)]) ⟨Or.inr rfl, Or.inr rfl, Or.inr rfl, Or.inr rfl, Or.inr rfl, trivial⟩ h
