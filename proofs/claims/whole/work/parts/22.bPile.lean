/-! FrostBox$Pile clear()V -/
set_option maxRecDepth 100000 in
theorem B_Pi_clear_0 {Γ : XG} {d : Nat} {Q : Option Value → XM → Prop} {r0 : Nat} {μ : XM} (o_r0_6 : ob μ r0 6) (h : ∀ μ1, μ1 = sI μ r0 4 (w 0) → ∀ μ2, μ2 = sI μ1 r0 5 (w 0) → Q none μ2) : G Γ m_Pi_clear (d + 1) (0, 0) Q 0 [.ref r0] [] μ := by
  refine run_ok (pc' := 5) [(.aload_n 0, 0, 0, 0), (.iconst 0, 0, 0, 0), (.putfield 24, 6, 4, 0)] _ _ _ _ (by decide +kernel) ?_
  show _ ∧ (_)
  refine ⟨o_r0_6, ?_⟩
  show G Γ m_Pi_clear (d + 1) (0, 0) Q 5 [.ref r0] [] (sI μ r0 4 (w 0))
  obtain ⟨μ1, em1⟩ : ∃ m : XM, m = sI μ r0 4 (w 0) := ⟨_, rfl⟩
  replace h := h μ1 em1
  have hm1 : xN μ ≤ xN μ1 := by rw [em1]; exact Nat.le_refl _
  rw [← em1]
  refine run_ok (pc' := 10) [(.aload_n 0, 0, 0, 0), (.iconst 0, 0, 0, 0), (.putfield 28, 6, 5, 0)] _ _ _ _ (by decide +kernel) ?_
  show _ ∧ (_)
  refine ⟨((o_r0_6).mono hm1), ?_⟩
  show G Γ m_Pi_clear (d + 1) (0, 0) Q 10 [.ref r0] [] (sI μ1 r0 5 (w 0))
  obtain ⟨μ2, em2⟩ : ∃ m : XM, m = sI μ1 r0 5 (w 0) := ⟨_, rfl⟩
  replace h := h μ2 em2
  have hm2 : xN μ1 ≤ xN μ2 := by rw [em2]; exact Nat.le_refl _
  rw [← em2]
  exact g_retv (by decide +kernel) rfl h
/-! FrostBox$Pile copyFrom(LFrostBox$Pile;)V -/
set_option maxRecDepth 100000 in
theorem ac_6_31 : Cond.methodLink (cnm 6) 31 arraycopyName ∈ lwG ∧ Cond.native arraycopyName ∈ lwG ∧ Cond.static arraycopyName ∈ lwG ∧ Cond.initialized "java/lang/System" ∈ lwG := ⟨lwG_in (List.mem_of_getElem? (i := 661) rfl) rfl, lwG_in (List.mem_of_getElem? (i := 481) rfl) rfl, lwG_in (List.mem_of_getElem? (i := 480) rfl) rfl, lwG_in (List.mem_of_getElem? (i := 125) rfl) rfl⟩
set_option maxRecDepth 100000 in
theorem B_Pi_copyFrom_0 {Γ : XG} {d : Nat} {Q : Option Value → XM → Prop} {r0 r1 r1_0 r0_0 r1_1 r0_1 r1_2 r0_2 r1_3 r0_3 : Nat} {μ : XM} (o_r1_6 : ob μ r1 6) (e_r1_0 : xR μ r1 0 = some r1_0) (o_r0_6 : ob μ r0 6) (e_r0_0 : xR μ r0 0 = some r0_0) (e_r1_1 : xR μ r1 1 = some r1_1) (e_r0_1 : xR μ r0 1 = some r0_1) (e_r1_2 : xR μ r1 2 = some r1_2) (e_r0_2 : xR μ r0 2 = some r0_2) (e_r1_3 : xR μ r1 3 = some r1_3) (e_r0_3 : xR μ r0 3 = some r0_3) (h : cpo μ r1_0 r0_0 8 ∧ ∀ μ2, μ2 = sC μ r1_0 r0_0 8 → cpo μ2 r1_1 r0_1 8 ∧ ∀ μ4, μ4 = sC μ2 r1_1 r0_1 8 → cpo μ4 r1_2 r0_2 8 ∧ ∀ μ6, μ6 = sC μ4 r1_2 r0_2 8 → cpo μ6 r1_3 r0_3 8 ∧ ∀ μ8, μ8 = sC μ6 r1_3 r0_3 8 → ∀ μ9, μ9 = sI μ8 r0 4 (xI μ8 r1 4) → ∀ μ10, μ10 = sI μ9 r0 5 (xI μ9 r1 5) → Q none μ10) : G Γ m_Pi_copyFrom (d + 2) (0, 0) Q 0 [.ref r0, .ref r1] [] μ := by
  refine run_ok (pc' := 12) [(.aload_n 1, 0, 0, 0), (.getfield 9, 6, 0, 2), (.iconst 0, 0, 0, 0), (.aload_n 0, 0, 0, 0), (.getfield 9, 6, 0, 2), (.iconst 0, 0, 0, 0), (.bipush 8, 0, 0, 0)] _ _ _ _ (by decide +kernel) ?_
  show _ ∧ (∃ _, _ ∧ (_ ∧ (∃ _, _ ∧ (_))))
  refine ⟨o_r1_6, r1_0, e_r1_0, o_r0_6, r0_0, e_r0_0, ?_⟩
  show G Γ m_Pi_copyFrom (d + 2) (0, 0) Q 12 [.ref r0, .ref r1] [.int (w 8), .int (w 0), .ref r0_0, .int (w 0), .ref r1_0] μ
  obtain ⟨cp1, h⟩ := h
  refine g_cpy (i := 31) (n := 8) ac_6_31.1 ac_6_31.2 (by decide) (Nat.le_of_ble_eq_true rfl) (by decide +kernel) cp1 ?_
  show G Γ m_Pi_copyFrom (d + 2) (0, 0) Q 15 [.ref r0, .ref r1] [] (sC μ r1_0 r0_0 8)
  obtain ⟨μ2, em2⟩ : ∃ m : XM, m = sC μ r1_0 r0_0 8 := ⟨_, rfl⟩
  replace h := h μ2 em2
  have hm2 : xN μ ≤ xN μ2 := by rw [em2]; exact Nat.le_refl _
  rw [← em2]
  refine run_ok (pc' := 27) [(.aload_n 1, 0, 0, 0), (.getfield 15, 6, 1, 2), (.iconst 0, 0, 0, 0), (.aload_n 0, 0, 0, 0), (.getfield 15, 6, 1, 2), (.iconst 0, 0, 0, 0), (.bipush 8, 0, 0, 0)] _ _ _ _ (by decide +kernel) ?_
  show _ ∧ (∃ _, _ ∧ (_ ∧ (∃ _, _ ∧ (_))))
  refine ⟨((o_r1_6).mono hm2), r1_1, (by rw [em2]; exact e_r1_1), ((o_r0_6).mono hm2), r0_1, (by rw [em2]; exact e_r0_1), ?_⟩
  show G Γ m_Pi_copyFrom (d + 2) (0, 0) Q 27 [.ref r0, .ref r1] [.int (w 8), .int (w 0), .ref r0_1, .int (w 0), .ref r1_1] μ2
  obtain ⟨cp3, h⟩ := h
  refine g_cpy (i := 31) (n := 8) ac_6_31.1 ac_6_31.2 (by decide) (Nat.le_of_ble_eq_true rfl) (by decide +kernel) cp3 ?_
  show G Γ m_Pi_copyFrom (d + 2) (0, 0) Q 30 [.ref r0, .ref r1] [] (sC μ2 r1_1 r0_1 8)
  obtain ⟨μ4, em4⟩ : ∃ m : XM, m = sC μ2 r1_1 r0_1 8 := ⟨_, rfl⟩
  replace h := h μ4 em4
  have hm4 : xN μ2 ≤ xN μ4 := by rw [em4]; exact Nat.le_refl _
  rw [← em4]
  refine run_ok (pc' := 42) [(.aload_n 1, 0, 0, 0), (.getfield 18, 6, 2, 2), (.iconst 0, 0, 0, 0), (.aload_n 0, 0, 0, 0), (.getfield 18, 6, 2, 2), (.iconst 0, 0, 0, 0), (.bipush 8, 0, 0, 0)] _ _ _ _ (by decide +kernel) ?_
  show _ ∧ (∃ _, _ ∧ (_ ∧ (∃ _, _ ∧ (_))))
  refine ⟨(((o_r1_6).mono hm2).mono hm4), r1_2, (by rw [em4]; exact (by rw [em2]; exact e_r1_2)), (((o_r0_6).mono hm2).mono hm4), r0_2, (by rw [em4]; exact (by rw [em2]; exact e_r0_2)), ?_⟩
  show G Γ m_Pi_copyFrom (d + 2) (0, 0) Q 42 [.ref r0, .ref r1] [.int (w 8), .int (w 0), .ref r0_2, .int (w 0), .ref r1_2] μ4
  obtain ⟨cp5, h⟩ := h
  refine g_cpy (i := 31) (n := 8) ac_6_31.1 ac_6_31.2 (by decide) (Nat.le_of_ble_eq_true rfl) (by decide +kernel) cp5 ?_
  show G Γ m_Pi_copyFrom (d + 2) (0, 0) Q 45 [.ref r0, .ref r1] [] (sC μ4 r1_2 r0_2 8)
  obtain ⟨μ6, em6⟩ : ∃ m : XM, m = sC μ4 r1_2 r0_2 8 := ⟨_, rfl⟩
  replace h := h μ6 em6
  have hm6 : xN μ4 ≤ xN μ6 := by rw [em6]; exact Nat.le_refl _
  rw [← em6]
  refine run_ok (pc' := 57) [(.aload_n 1, 0, 0, 0), (.getfield 21, 6, 3, 2), (.iconst 0, 0, 0, 0), (.aload_n 0, 0, 0, 0), (.getfield 21, 6, 3, 2), (.iconst 0, 0, 0, 0), (.bipush 8, 0, 0, 0)] _ _ _ _ (by decide +kernel) ?_
  show _ ∧ (∃ _, _ ∧ (_ ∧ (∃ _, _ ∧ (_))))
  refine ⟨((((o_r1_6).mono hm2).mono hm4).mono hm6), r1_3, (by rw [em6]; exact (by rw [em4]; exact (by rw [em2]; exact e_r1_3))), ((((o_r0_6).mono hm2).mono hm4).mono hm6), r0_3, (by rw [em6]; exact (by rw [em4]; exact (by rw [em2]; exact e_r0_3))), ?_⟩
  show G Γ m_Pi_copyFrom (d + 2) (0, 0) Q 57 [.ref r0, .ref r1] [.int (w 8), .int (w 0), .ref r0_3, .int (w 0), .ref r1_3] μ6
  obtain ⟨cp7, h⟩ := h
  refine g_cpy (i := 31) (n := 8) ac_6_31.1 ac_6_31.2 (by decide) (Nat.le_of_ble_eq_true rfl) (by decide +kernel) cp7 ?_
  show G Γ m_Pi_copyFrom (d + 2) (0, 0) Q 60 [.ref r0, .ref r1] [] (sC μ6 r1_3 r0_3 8)
  obtain ⟨μ8, em8⟩ : ∃ m : XM, m = sC μ6 r1_3 r0_3 8 := ⟨_, rfl⟩
  replace h := h μ8 em8
  have hm8 : xN μ6 ≤ xN μ8 := by rw [em8]; exact Nat.le_refl _
  rw [← em8]
  refine run_ok (pc' := 68) [(.aload_n 0, 0, 0, 0), (.aload_n 1, 0, 0, 0), (.getfield 24, 6, 4, 0), (.putfield 24, 6, 4, 0)] _ _ _ _ (by decide +kernel) ?_
  show _ ∧ (_ ∧ (_))
  refine ⟨(((((o_r1_6).mono hm2).mono hm4).mono hm6).mono hm8), (((((o_r0_6).mono hm2).mono hm4).mono hm6).mono hm8), ?_⟩
  show G Γ m_Pi_copyFrom (d + 2) (0, 0) Q 68 [.ref r0, .ref r1] [] (sI μ8 r0 4 (xI μ8 r1 4))
  obtain ⟨μ9, em9⟩ : ∃ m : XM, m = sI μ8 r0 4 (xI μ8 r1 4) := ⟨_, rfl⟩
  replace h := h μ9 em9
  have hm9 : xN μ8 ≤ xN μ9 := by rw [em9]; exact Nat.le_refl _
  rw [← em9]
  refine run_ok (pc' := 76) [(.aload_n 0, 0, 0, 0), (.aload_n 1, 0, 0, 0), (.getfield 28, 6, 5, 0), (.putfield 28, 6, 5, 0)] _ _ _ _ (by decide +kernel) ?_
  show _ ∧ (_ ∧ (_))
  refine ⟨((((((o_r1_6).mono hm2).mono hm4).mono hm6).mono hm8).mono hm9), ((((((o_r0_6).mono hm2).mono hm4).mono hm6).mono hm8).mono hm9), ?_⟩
  show G Γ m_Pi_copyFrom (d + 2) (0, 0) Q 76 [.ref r0, .ref r1] [] (sI μ9 r0 5 (xI μ9 r1 5))
  obtain ⟨μ10, em10⟩ : ∃ m : XM, m = sI μ9 r0 5 (xI μ9 r1 5) := ⟨_, rfl⟩
  replace h := h μ10 em10
  have hm10 : xN μ9 ≤ xN μ10 := by rw [em10]; exact Nat.le_refl _
  rw [← em10]
  exact g_retv (by decide +kernel) rfl h
/-! FrostBox$Pile hasPlace(I)Z -/
set_option maxRecDepth 100000 in
theorem B_Pi_hasPlace_0 {Γ : XG} {d : Nat} {Q : Option Value → XM → Prop} {r0 : Nat} {x1 : Int32} {μ : XM} (o_r0_6 : ob μ r0 6) (h : ((x1 < w 0 → Q (some (.int (w 0))) μ) ∧ (¬ x1 < w 0 → ((x1 < xI μ r0 4 → Q (some (.int (w 1))) μ) ∧ (¬ x1 < xI μ r0 4 → Q (some (.int (w 0))) μ))))) : G Γ m_Pi_hasPlace (d + 1) (0, 0) Q 0 [.ref r0, .int x1] [] μ := by
  refine run_ok (pc' := 1) [(.iload_n 1, 0, 0, 0)] _ _ _ _ (by decide +kernel) ?_
  show G Γ m_Pi_hasPlace (d + 1) (0, 0) Q 1 [.ref r0, .int x1] [.int x1] μ
  refine g_ifz_lt (pc' := 16) (off := 15) (by decide) (by decide +kernel) (fun hc => ?_) (fun hc => ?_)
  · replace h := h.1 hc
    show G Γ m_Pi_hasPlace (d + 1) (0, 0) Q 16 [.ref r0, .int x1] [] μ
    refine run_ok (pc' := 17) [(.iconst 0, 0, 0, 0)] _ _ _ _ (by decide +kernel) ?_
    show G Γ m_Pi_hasPlace (d + 1) (0, 0) Q 17 [.ref r0, .int x1] [.int (w 0)] μ
    exact g_retz (by decide +kernel) rfl (Or.inl rfl) h
  · replace h := h.2 hc
    show G Γ m_Pi_hasPlace (d + 1) (0, 0) Q 4 [.ref r0, .int x1] [] μ
    refine run_ok (pc' := 9) [(.iload_n 1, 0, 0, 0), (.aload_n 0, 0, 0, 0), (.getfield 24, 6, 4, 0)] _ _ _ _ (by decide +kernel) ?_
    show _ ∧ (_)
    refine ⟨o_r0_6, ?_⟩
    show G Γ m_Pi_hasPlace (d + 1) (0, 0) Q 9 [.ref r0, .int x1] [.int (xI μ r0 4), .int x1] μ
    refine g_icmp_ge (pc' := 16) (off := 7) (by decide) (by decide +kernel) (fun hc => ?_) (fun hc => ?_)
    · replace h := h.2 hc
      show G Γ m_Pi_hasPlace (d + 1) (0, 0) Q 16 [.ref r0, .int x1] [] μ
      refine run_ok (pc' := 17) [(.iconst 0, 0, 0, 0)] _ _ _ _ (by decide +kernel) ?_
      show G Γ m_Pi_hasPlace (d + 1) (0, 0) Q 17 [.ref r0, .int x1] [.int (w 0)] μ
      exact g_retz (by decide +kernel) rfl (Or.inl rfl) h
    · replace h := h.1 hc
      show G Γ m_Pi_hasPlace (d + 1) (0, 0) Q 12 [.ref r0, .int x1] [] μ
      refine run_ok (pc' := 17) [(.iconst 1, 0, 0, 0), (.goto 4, 0, 0, 0)] _ _ _ _ (by decide +kernel) ?_
      show G Γ m_Pi_hasPlace (d + 1) (0, 0) Q 17 [.ref r0, .int x1] [.int (w 1)] μ
      exact g_retz (by decide +kernel) rfl (Or.inr rfl) h
/-! FrostBox$Pile indexOf(I)I -/
set_option maxRecDepth 100000 in
theorem B_Pi_indexOf_0 {Γ : XG} {d : Nat} {Q : Option Value → XM → Prop} {r0 : Nat} {x1 : Int32} {μ : XM} (o_r0_6 : ob μ r0 6) (h : Q (some (.int (((xI μ r0 4) - (w 1)) - x1))) μ) : G Γ m_Pi_indexOf (d + 1) (0, 0) Q 0 [.ref r0, .int x1] [] μ := by
  refine run_ok (pc' := 8) [(.aload_n 0, 0, 0, 0), (.getfield 24, 6, 4, 0), (.iconst 1, 0, 0, 0), (.isub, 0, 0, 0), (.iload_n 1, 0, 0, 0), (.isub, 0, 0, 0)] _ _ _ _ (by decide +kernel) ?_
  show _ ∧ (_)
  refine ⟨o_r0_6, ?_⟩
  show G Γ m_Pi_indexOf (d + 1) (0, 0) Q 8 [.ref r0, .int x1] [.int (((xI μ r0 4) - (w 1)) - x1)] μ
  exact g_reti (by decide +kernel) rfl h
/-! FrostBox$Pile hasLabel(I)Z -/
set_option maxRecDepth 100000 in
theorem B_Pi_hasLabel_0 {Γ : XG} {d : Nat} {Q : Option Value → XM → Prop} {r0 r0_3 : Nat} {x1 : Int32} {μ : XM} (o_r0_6 : ob μ r0 6) (e_r0_3 : xR μ r0 3 = some r0_3) (h : inb μ 0 r0_3 x1 ∧ ((xI μ r0_3 x1.toNatClampNeg = w (-1) → Q (some (.int (w 0))) μ) ∧ (¬ xI μ r0_3 x1.toNatClampNeg = w (-1) → Q (some (.int (w 1))) μ))) : G Γ m_Pi_hasLabel (d + 1) (0, 0) Q 0 [.ref r0, .int x1] [] μ := by
  obtain ⟨ib1, h⟩ := h
  refine run_ok (pc' := 7) [(.aload_n 0, 0, 0, 0), (.getfield 21, 6, 3, 2), (.iload_n 1, 0, 0, 0), (.iaload, 0, 0, 0), (.iconst (-1), 0, 0, 0)] _ _ _ _ (by decide +kernel) ?_
  show _ ∧ (∃ _, _ ∧ (_ ∧ (_)))
  refine ⟨o_r0_6, r0_3, e_r0_3, ib1, ?_⟩
  show G Γ m_Pi_hasLabel (d + 1) (0, 0) Q 7 [.ref r0, .int x1] [.int (w (-1)), .int (xI μ r0_3 x1.toNatClampNeg)] μ
  refine g_icmp_eq (pc' := 14) (off := 7) (by decide) (by decide +kernel) (fun hc => ?_) (fun hc => ?_)
  · replace h := h.1 hc
    show G Γ m_Pi_hasLabel (d + 1) (0, 0) Q 14 [.ref r0, .int x1] [] μ
    refine run_ok (pc' := 15) [(.iconst 0, 0, 0, 0)] _ _ _ _ (by decide +kernel) ?_
    show G Γ m_Pi_hasLabel (d + 1) (0, 0) Q 15 [.ref r0, .int x1] [.int (w 0)] μ
    exact g_retz (by decide +kernel) rfl (Or.inl rfl) h
  · replace h := h.2 hc
    show G Γ m_Pi_hasLabel (d + 1) (0, 0) Q 10 [.ref r0, .int x1] [] μ
    refine run_ok (pc' := 15) [(.iconst 1, 0, 0, 0), (.goto 4, 0, 0, 0)] _ _ _ _ (by decide +kernel) ?_
    show G Γ m_Pi_hasLabel (d + 1) (0, 0) Q 15 [.ref r0, .int x1] [.int (w 1)] μ
    exact g_retz (by decide +kernel) rfl (Or.inr rfl) h
/-! FrostBox$Pile putLabel(I)V -/
set_option maxRecDepth 100000 in
theorem B_Pi_putLabel_0 {Γ : XG} {d : Nat} {Q : Option Value → XM → Prop} {r0 r0_3 : Nat} {x1 : Int32} {μ : XM} (o_r0_6 : ob μ r0 6) (e_r0_3 : xR μ r0 3 = some r0_3) (h : inS μ 0 r0_3 x1 ∧ ∀ μ2, μ2 = sI μ r0_3 x1.toNatClampNeg (xI μ r0 5) → Q none μ2) : G Γ m_Pi_putLabel (d + 1) (0, 0) Q 0 [.ref r0, .int x1] [] μ := by
  obtain ⟨is1, h⟩ := h
  refine run_ok (pc' := 10) [(.aload_n 0, 0, 0, 0), (.getfield 21, 6, 3, 2), (.iload_n 1, 0, 0, 0), (.aload_n 0, 0, 0, 0), (.getfield 28, 6, 5, 0), (.iastore, 0, 0, 0)] _ _ _ _ (by decide +kernel) ?_
  show _ ∧ (∃ _, _ ∧ (_ ∧ (_ ∧ (_))))
  refine ⟨o_r0_6, r0_3, e_r0_3, o_r0_6, is1, ?_⟩
  show G Γ m_Pi_putLabel (d + 1) (0, 0) Q 10 [.ref r0, .int x1] [] (sI μ r0_3 x1.toNatClampNeg (xI μ r0 5))
  obtain ⟨μ2, em2⟩ : ∃ m : XM, m = sI μ r0_3 x1.toNatClampNeg (xI μ r0 5) := ⟨_, rfl⟩
  replace h := h μ2 em2
  have hm2 : xN μ ≤ xN μ2 := by rw [em2]; exact Nat.le_refl _
  rw [← em2]
  exact g_retv (by decide +kernel) rfl h
/-! FrostBox$Pile portionsInAll()I -/
set_option maxRecDepth 100000 in
theorem B_Pi_portionsInAll_0 {Γ : XG} {d : Nat} {Q : Option Value → XM → Prop} {r0 : Nat} {μ : XM}  (h : G Γ m_Pi_portionsInAll (d + 1) (0, 0) Q 4 [.ref r0, .int (w 0), .int (w 0)] [] μ) : G Γ m_Pi_portionsInAll (d + 1) (0, 0) Q 0 [.ref r0] [] μ := by
  refine run_ok (pc' := 4) [(.iconst 0, 0, 0, 0), (.istore_n 1, 0, 0, 0), (.iconst 0, 0, 0, 0), (.istore_n 2, 0, 0, 0)] _ _ _ _ (by decide +kernel) ?_
  show G Γ m_Pi_portionsInAll (d + 1) (0, 0) Q 4 [.ref r0, .int (w 0), .int (w 0)] [] μ
  exact h
set_option maxRecDepth 100000 in
theorem B_Pi_portionsInAll_4 {Γ : XG} {d : Nat} {Q : Option Value → XM → Prop} {r0 r0_1 : Nat} {x1 x2 : Int32} {μ : XM} (o_r0_6 : ob μ r0 6) (e_r0_1 : xR μ r0 1 = some r0_1) (h : ((x2 < xI μ r0 4 → inb μ 0 r0_1 x2 ∧ G Γ m_Pi_portionsInAll (d + 1) (0, 0) Q 4 [.ref r0, .int (x1 + (xI μ r0_1 x2.toNatClampNeg)), .int (x2 + w 1)] [] μ) ∧ (¬ x2 < xI μ r0 4 → Q (some (.int x1)) μ))) : G Γ m_Pi_portionsInAll (d + 1) (0, 0) Q 4 [.ref r0, .int x1, .int x2] [] μ := by
  refine run_ok (pc' := 9) [(.iload_n 2, 0, 0, 0), (.aload_n 0, 0, 0, 0), (.getfield 24, 6, 4, 0)] _ _ _ _ (by decide +kernel) ?_
  show _ ∧ (_)
  refine ⟨o_r0_6, ?_⟩
  show G Γ m_Pi_portionsInAll (d + 1) (0, 0) Q 9 [.ref r0, .int x1, .int x2] [.int (xI μ r0 4), .int x2] μ
  refine g_icmp_ge (pc' := 27) (off := 18) (by decide) (by decide +kernel) (fun hc => ?_) (fun hc => ?_)
  · replace h := h.2 hc
    show G Γ m_Pi_portionsInAll (d + 1) (0, 0) Q 27 [.ref r0, .int x1, .int x2] [] μ
    refine run_ok (pc' := 28) [(.iload_n 1, 0, 0, 0)] _ _ _ _ (by decide +kernel) ?_
    show G Γ m_Pi_portionsInAll (d + 1) (0, 0) Q 28 [.ref r0, .int x1, .int x2] [.int x1] μ
    exact g_reti (by decide +kernel) rfl h
  · replace h := h.1 hc
    show G Γ m_Pi_portionsInAll (d + 1) (0, 0) Q 12 [.ref r0, .int x1, .int x2] [] μ
    obtain ⟨ib1, h⟩ := h
    refine run_ok (pc' := 4) [(.iload_n 1, 0, 0, 0), (.aload_n 0, 0, 0, 0), (.getfield 15, 6, 1, 2), (.iload_n 2, 0, 0, 0), (.iaload, 0, 0, 0), (.iadd, 0, 0, 0), (.istore_n 1, 0, 0, 0), (.iinc 2 1, 0, 0, 0), (.goto (-20), 0, 0, 0)] _ _ _ _ (by decide +kernel) ?_
    show _ ∧ (∃ _, _ ∧ (_ ∧ (_)))
    refine ⟨o_r0_6, r0_1, e_r0_1, ib1, ?_⟩
    show G Γ m_Pi_portionsInAll (d + 1) (0, 0) Q 4 [.ref r0, .int (x1 + (xI μ r0_1 x2.toNatClampNeg)), .int (x2 + w 1)] [] μ
    exact h
/-! FrostBox$Pile push(IIII)V -/
set_option maxRecDepth 100000 in
theorem B_Pi_push_0 {Γ : XG} {d : Nat} {Q : Option Value → XM → Prop} {r0 r0_0 r0_1 r0_2 r0_3 : Nat} {x1 x2 x3 x4 : Int32} {μ : XM} (o_r0_6 : ob μ r0 6) (e_r0_0 : xR μ r0 0 = some r0_0) (e_r0_1 : xR μ r0 1 = some r0_1) (e_r0_2 : xR μ r0 2 = some r0_2) (e_r0_3 : xR μ r0 3 = some r0_3) (h : ((xI μ r0 4 < w 8 → inS μ 0 r0_0 (xI μ r0 4) ∧ ∀ μ2, μ2 = sI μ r0_0 (xI μ r0 4).toNatClampNeg x1 → inS μ2 0 r0_1 (xI μ2 r0 4) ∧ ∀ μ4, μ4 = sI μ2 r0_1 (xI μ2 r0 4).toNatClampNeg x2 → inS μ4 0 r0_2 (xI μ4 r0 4) ∧ ∀ μ6, μ6 = sI μ4 r0_2 (xI μ4 r0 4).toNatClampNeg x3 → inS μ6 0 r0_3 (xI μ6 r0 4) ∧ ∀ μ8, μ8 = sI μ6 r0_3 (xI μ6 r0 4).toNatClampNeg x4 → ∀ μ9, μ9 = sI μ8 r0 4 ((xI μ8 r0 4) + (w 1)) → Q none μ9) ∧ (¬ xI μ r0 4 < w 8 → Q none μ))) : G Γ m_Pi_push (d + 1) (0, 0) Q 0 [.ref r0, .int x1, .int x2, .int x3, .int x4] [] μ := by
  refine run_ok (pc' := 6) [(.aload_n 0, 0, 0, 0), (.getfield 24, 6, 4, 0), (.bipush 8, 0, 0, 0)] _ _ _ _ (by decide +kernel) ?_
  show _ ∧ (_)
  refine ⟨o_r0_6, ?_⟩
  show G Γ m_Pi_push (d + 1) (0, 0) Q 6 [.ref r0, .int x1, .int x2, .int x3, .int x4] [.int (w 8), .int (xI μ r0 4)] μ
  refine g_icmp_ge (pc' := 60) (off := 54) (by decide) (by decide +kernel) (fun hc => ?_) (fun hc => ?_)
  · replace h := h.2 hc
    show G Γ m_Pi_push (d + 1) (0, 0) Q 60 [.ref r0, .int x1, .int x2, .int x3, .int x4] [] μ
    exact g_retv (by decide +kernel) rfl h
  · replace h := h.1 hc
    show G Γ m_Pi_push (d + 1) (0, 0) Q 9 [.ref r0, .int x1, .int x2, .int x3, .int x4] [] μ
    obtain ⟨is1, h⟩ := h
    refine run_ok (pc' := 19) [(.aload_n 0, 0, 0, 0), (.getfield 9, 6, 0, 2), (.aload_n 0, 0, 0, 0), (.getfield 24, 6, 4, 0), (.iload_n 1, 0, 0, 0), (.iastore, 0, 0, 0)] _ _ _ _ (by decide +kernel) ?_
    show _ ∧ (∃ _, _ ∧ (_ ∧ (_ ∧ (_))))
    refine ⟨o_r0_6, r0_0, e_r0_0, o_r0_6, is1, ?_⟩
    show G Γ m_Pi_push (d + 1) (0, 0) Q 19 [.ref r0, .int x1, .int x2, .int x3, .int x4] [] (sI μ r0_0 (xI μ r0 4).toNatClampNeg x1)
    obtain ⟨μ2, em2⟩ : ∃ m : XM, m = sI μ r0_0 (xI μ r0 4).toNatClampNeg x1 := ⟨_, rfl⟩
    replace h := h μ2 em2
    have hm2 : xN μ ≤ xN μ2 := by rw [em2]; exact Nat.le_refl _
    rw [← em2]
    obtain ⟨is3, h⟩ := h
    refine run_ok (pc' := 29) [(.aload_n 0, 0, 0, 0), (.getfield 15, 6, 1, 2), (.aload_n 0, 0, 0, 0), (.getfield 24, 6, 4, 0), (.iload_n 2, 0, 0, 0), (.iastore, 0, 0, 0)] _ _ _ _ (by decide +kernel) ?_
    show _ ∧ (∃ _, _ ∧ (_ ∧ (_ ∧ (_))))
    refine ⟨((o_r0_6).mono hm2), r0_1, (by rw [em2]; exact e_r0_1), ((o_r0_6).mono hm2), is3, ?_⟩
    show G Γ m_Pi_push (d + 1) (0, 0) Q 29 [.ref r0, .int x1, .int x2, .int x3, .int x4] [] (sI μ2 r0_1 (xI μ2 r0 4).toNatClampNeg x2)
    obtain ⟨μ4, em4⟩ : ∃ m : XM, m = sI μ2 r0_1 (xI μ2 r0 4).toNatClampNeg x2 := ⟨_, rfl⟩
    replace h := h μ4 em4
    have hm4 : xN μ2 ≤ xN μ4 := by rw [em4]; exact Nat.le_refl _
    rw [← em4]
    obtain ⟨is5, h⟩ := h
    refine run_ok (pc' := 39) [(.aload_n 0, 0, 0, 0), (.getfield 18, 6, 2, 2), (.aload_n 0, 0, 0, 0), (.getfield 24, 6, 4, 0), (.iload_n 3, 0, 0, 0), (.iastore, 0, 0, 0)] _ _ _ _ (by decide +kernel) ?_
    show _ ∧ (∃ _, _ ∧ (_ ∧ (_ ∧ (_))))
    refine ⟨(((o_r0_6).mono hm2).mono hm4), r0_2, (by rw [em4]; exact (by rw [em2]; exact e_r0_2)), (((o_r0_6).mono hm2).mono hm4), is5, ?_⟩
    show G Γ m_Pi_push (d + 1) (0, 0) Q 39 [.ref r0, .int x1, .int x2, .int x3, .int x4] [] (sI μ4 r0_2 (xI μ4 r0 4).toNatClampNeg x3)
    obtain ⟨μ6, em6⟩ : ∃ m : XM, m = sI μ4 r0_2 (xI μ4 r0 4).toNatClampNeg x3 := ⟨_, rfl⟩
    replace h := h μ6 em6
    have hm6 : xN μ4 ≤ xN μ6 := by rw [em6]; exact Nat.le_refl _
    rw [← em6]
    obtain ⟨is7, h⟩ := h
    refine run_ok (pc' := 50) [(.aload_n 0, 0, 0, 0), (.getfield 21, 6, 3, 2), (.aload_n 0, 0, 0, 0), (.getfield 24, 6, 4, 0), (.iload 4, 0, 0, 0), (.iastore, 0, 0, 0)] _ _ _ _ (by decide +kernel) ?_
    show _ ∧ (∃ _, _ ∧ (_ ∧ (_ ∧ (_))))
    refine ⟨((((o_r0_6).mono hm2).mono hm4).mono hm6), r0_3, (by rw [em6]; exact (by rw [em4]; exact (by rw [em2]; exact e_r0_3))), ((((o_r0_6).mono hm2).mono hm4).mono hm6), is7, ?_⟩
    show G Γ m_Pi_push (d + 1) (0, 0) Q 50 [.ref r0, .int x1, .int x2, .int x3, .int x4] [] (sI μ6 r0_3 (xI μ6 r0 4).toNatClampNeg x4)
    obtain ⟨μ8, em8⟩ : ∃ m : XM, m = sI μ6 r0_3 (xI μ6 r0 4).toNatClampNeg x4 := ⟨_, rfl⟩
    replace h := h μ8 em8
    have hm8 : xN μ6 ≤ xN μ8 := by rw [em8]; exact Nat.le_refl _
    rw [← em8]
    refine run_ok (pc' := 60) [(.aload_n 0, 0, 0, 0), (.dup, 0, 0, 0), (.getfield 24, 6, 4, 0), (.iconst 1, 0, 0, 0), (.iadd, 0, 0, 0), (.putfield 24, 6, 4, 0)] _ _ _ _ (by decide +kernel) ?_
    show _ ∧ (_ ∧ (_))
    refine ⟨(((((o_r0_6).mono hm2).mono hm4).mono hm6).mono hm8), (((((o_r0_6).mono hm2).mono hm4).mono hm6).mono hm8), ?_⟩
    show G Γ m_Pi_push (d + 1) (0, 0) Q 60 [.ref r0, .int x1, .int x2, .int x3, .int x4] [] (sI μ8 r0 4 ((xI μ8 r0 4) + (w 1)))
    obtain ⟨μ9, em9⟩ : ∃ m : XM, m = sI μ8 r0 4 ((xI μ8 r0 4) + (w 1)) := ⟨_, rfl⟩
    replace h := h μ9 em9
    have hm9 : xN μ8 ≤ xN μ9 := by rw [em9]; exact Nat.le_refl _
    rw [← em9]
    exact g_retv (by decide +kernel) rfl h
/-! FrostBox$Pile remove(I)V -/
set_option maxRecDepth 100000 in
theorem B_Pi_remove_0 {Γ : XG} {d : Nat} {Q : Option Value → XM → Prop} {r0 : Nat} {x1 : Int32} {μ : XM}  (h : G Γ m_Pi_remove (d + 1) (0, 0) Q 2 [.ref r0, jk, .int x1] [] μ) : G Γ m_Pi_remove (d + 1) (0, 0) Q 0 [.ref r0, .int x1] [] μ := by
  refine run_ok (pc' := 2) [(.iload_n 1, 0, 0, 0), (.istore_n 2, 0, 0, 0)] _ _ _ _ (by decide +kernel) ?_
  show G Γ m_Pi_remove (d + 1) (0, 0) Q 2 [.ref r0, .int x1, .int x1] [] μ
  exact g_wk (ls' := [.ref r0, jk, .int x1]) ⟨Or.inr rfl, Or.inl rfl, Or.inr rfl, trivial⟩ h
set_option maxRecDepth 100000 in
theorem B_Pi_remove_2 {Γ : XG} {d : Nat} {Q : Option Value → XM → Prop} {r0 r0_0 r0_1 r0_2 r0_3 : Nat} {x2 : Int32} {μ : XM} (o_r0_6 : ob μ r0 6) (e_r0_0 : xR μ r0 0 = some r0_0) (e_r0_1 : xR μ r0 1 = some r0_1) (e_r0_2 : xR μ r0 2 = some r0_2) (e_r0_3 : xR μ r0 3 = some r0_3) (h : ((x2 < (xI μ r0 4) - (w 1) → inb μ 0 r0_0 (x2 + (w 1)) ∧ inS μ 0 r0_0 x2 ∧ ∀ μ4, μ4 = sI μ r0_0 x2.toNatClampNeg (xI μ r0_0 (x2 + (w 1)).toNatClampNeg) → inb μ4 0 r0_1 (x2 + (w 1)) ∧ inS μ4 0 r0_1 x2 ∧ ∀ μ7, μ7 = sI μ4 r0_1 x2.toNatClampNeg (xI μ4 r0_1 (x2 + (w 1)).toNatClampNeg) → inb μ7 0 r0_2 (x2 + (w 1)) ∧ inS μ7 0 r0_2 x2 ∧ ∀ μ10, μ10 = sI μ7 r0_2 x2.toNatClampNeg (xI μ7 r0_2 (x2 + (w 1)).toNatClampNeg) → inb μ10 0 r0_3 (x2 + (w 1)) ∧ inS μ10 0 r0_3 x2 ∧ ∀ μ13, μ13 = sI μ10 r0_3 x2.toNatClampNeg (xI μ10 r0_3 (x2 + (w 1)).toNatClampNeg) → G Γ m_Pi_remove (d + 1) (0, 0) Q 2 [.ref r0, jk, .int (x2 + w 1)] [] μ13) ∧ (¬ x2 < (xI μ r0 4) - (w 1) → ∀ μ1, μ1 = sI μ r0 4 ((xI μ r0 4) - (w 1)) → Q none μ1))) : G Γ m_Pi_remove (d + 1) (0, 0) Q 2 [.ref r0, jk, .int x2] [] μ := by
  refine run_ok (pc' := 9) [(.iload_n 2, 0, 0, 0), (.aload_n 0, 0, 0, 0), (.getfield 24, 6, 4, 0), (.iconst 1, 0, 0, 0), (.isub, 0, 0, 0)] _ _ _ _ (by decide +kernel) ?_
  show _ ∧ (_)
  refine ⟨o_r0_6, ?_⟩
  show G Γ m_Pi_remove (d + 1) (0, 0) Q 9 [.ref r0, jk, .int x2] [.int ((xI μ r0 4) - (w 1)), .int x2] μ
  refine g_icmp_ge (pc' := 74) (off := 65) (by decide) (by decide +kernel) (fun hc => ?_) (fun hc => ?_)
  · replace h := h.2 hc
    show G Γ m_Pi_remove (d + 1) (0, 0) Q 74 [.ref r0, jk, .int x2] [] μ
    refine run_ok (pc' := 84) [(.aload_n 0, 0, 0, 0), (.dup, 0, 0, 0), (.getfield 24, 6, 4, 0), (.iconst 1, 0, 0, 0), (.isub, 0, 0, 0), (.putfield 24, 6, 4, 0)] _ _ _ _ (by decide +kernel) ?_
    show _ ∧ (_ ∧ (_))
    refine ⟨o_r0_6, o_r0_6, ?_⟩
    show G Γ m_Pi_remove (d + 1) (0, 0) Q 84 [.ref r0, jk, .int x2] [] (sI μ r0 4 ((xI μ r0 4) - (w 1)))
    obtain ⟨μ1, em1⟩ : ∃ m : XM, m = sI μ r0 4 ((xI μ r0 4) - (w 1)) := ⟨_, rfl⟩
    replace h := h μ1 em1
    have hm1 : xN μ ≤ xN μ1 := by rw [em1]; exact Nat.le_refl _
    rw [← em1]
    exact g_retv (by decide +kernel) rfl h
  · replace h := h.1 hc
    show G Γ m_Pi_remove (d + 1) (0, 0) Q 12 [.ref r0, jk, .int x2] [] μ
    obtain ⟨ib2, h⟩ := h
    obtain ⟨is3, h⟩ := h
    refine run_ok (pc' := 26) [(.aload_n 0, 0, 0, 0), (.getfield 9, 6, 0, 2), (.iload_n 2, 0, 0, 0), (.aload_n 0, 0, 0, 0), (.getfield 9, 6, 0, 2), (.iload_n 2, 0, 0, 0), (.iconst 1, 0, 0, 0), (.iadd, 0, 0, 0), (.iaload, 0, 0, 0), (.iastore, 0, 0, 0)] _ _ _ _ (by decide +kernel) ?_
    show _ ∧ (∃ _, _ ∧ (_ ∧ (∃ _, _ ∧ (_ ∧ (_ ∧ (_))))))
    refine ⟨o_r0_6, r0_0, e_r0_0, o_r0_6, r0_0, e_r0_0, ib2, is3, ?_⟩
    show G Γ m_Pi_remove (d + 1) (0, 0) Q 26 [.ref r0, jk, .int x2] [] (sI μ r0_0 x2.toNatClampNeg (xI μ r0_0 (x2 + (w 1)).toNatClampNeg))
    obtain ⟨μ4, em4⟩ : ∃ m : XM, m = sI μ r0_0 x2.toNatClampNeg (xI μ r0_0 (x2 + (w 1)).toNatClampNeg) := ⟨_, rfl⟩
    replace h := h μ4 em4
    have hm4 : xN μ ≤ xN μ4 := by rw [em4]; exact Nat.le_refl _
    rw [← em4]
    obtain ⟨ib5, h⟩ := h
    obtain ⟨is6, h⟩ := h
    refine run_ok (pc' := 40) [(.aload_n 0, 0, 0, 0), (.getfield 15, 6, 1, 2), (.iload_n 2, 0, 0, 0), (.aload_n 0, 0, 0, 0), (.getfield 15, 6, 1, 2), (.iload_n 2, 0, 0, 0), (.iconst 1, 0, 0, 0), (.iadd, 0, 0, 0), (.iaload, 0, 0, 0), (.iastore, 0, 0, 0)] _ _ _ _ (by decide +kernel) ?_
    show _ ∧ (∃ _, _ ∧ (_ ∧ (∃ _, _ ∧ (_ ∧ (_ ∧ (_))))))
    refine ⟨((o_r0_6).mono hm4), r0_1, (by rw [em4]; exact e_r0_1), ((o_r0_6).mono hm4), r0_1, (by rw [em4]; exact e_r0_1), ib5, is6, ?_⟩
    show G Γ m_Pi_remove (d + 1) (0, 0) Q 40 [.ref r0, jk, .int x2] [] (sI μ4 r0_1 x2.toNatClampNeg (xI μ4 r0_1 (x2 + (w 1)).toNatClampNeg))
    obtain ⟨μ7, em7⟩ : ∃ m : XM, m = sI μ4 r0_1 x2.toNatClampNeg (xI μ4 r0_1 (x2 + (w 1)).toNatClampNeg) := ⟨_, rfl⟩
    replace h := h μ7 em7
    have hm7 : xN μ4 ≤ xN μ7 := by rw [em7]; exact Nat.le_refl _
    rw [← em7]
    obtain ⟨ib8, h⟩ := h
    obtain ⟨is9, h⟩ := h
    refine run_ok (pc' := 54) [(.aload_n 0, 0, 0, 0), (.getfield 18, 6, 2, 2), (.iload_n 2, 0, 0, 0), (.aload_n 0, 0, 0, 0), (.getfield 18, 6, 2, 2), (.iload_n 2, 0, 0, 0), (.iconst 1, 0, 0, 0), (.iadd, 0, 0, 0), (.iaload, 0, 0, 0), (.iastore, 0, 0, 0)] _ _ _ _ (by decide +kernel) ?_
    show _ ∧ (∃ _, _ ∧ (_ ∧ (∃ _, _ ∧ (_ ∧ (_ ∧ (_))))))
    refine ⟨(((o_r0_6).mono hm4).mono hm7), r0_2, (by rw [em7]; exact (by rw [em4]; exact e_r0_2)), (((o_r0_6).mono hm4).mono hm7), r0_2, (by rw [em7]; exact (by rw [em4]; exact e_r0_2)), ib8, is9, ?_⟩
    show G Γ m_Pi_remove (d + 1) (0, 0) Q 54 [.ref r0, jk, .int x2] [] (sI μ7 r0_2 x2.toNatClampNeg (xI μ7 r0_2 (x2 + (w 1)).toNatClampNeg))
    obtain ⟨μ10, em10⟩ : ∃ m : XM, m = sI μ7 r0_2 x2.toNatClampNeg (xI μ7 r0_2 (x2 + (w 1)).toNatClampNeg) := ⟨_, rfl⟩
    replace h := h μ10 em10
    have hm10 : xN μ7 ≤ xN μ10 := by rw [em10]; exact Nat.le_refl _
    rw [← em10]
    obtain ⟨ib11, h⟩ := h
    obtain ⟨is12, h⟩ := h
    refine run_ok (pc' := 68) [(.aload_n 0, 0, 0, 0), (.getfield 21, 6, 3, 2), (.iload_n 2, 0, 0, 0), (.aload_n 0, 0, 0, 0), (.getfield 21, 6, 3, 2), (.iload_n 2, 0, 0, 0), (.iconst 1, 0, 0, 0), (.iadd, 0, 0, 0), (.iaload, 0, 0, 0), (.iastore, 0, 0, 0)] _ _ _ _ (by decide +kernel) ?_
    show _ ∧ (∃ _, _ ∧ (_ ∧ (∃ _, _ ∧ (_ ∧ (_ ∧ (_))))))
    refine ⟨((((o_r0_6).mono hm4).mono hm7).mono hm10), r0_3, (by rw [em10]; exact (by rw [em7]; exact (by rw [em4]; exact e_r0_3))), ((((o_r0_6).mono hm4).mono hm7).mono hm10), r0_3, (by rw [em10]; exact (by rw [em7]; exact (by rw [em4]; exact e_r0_3))), ib11, is12, ?_⟩
    show G Γ m_Pi_remove (d + 1) (0, 0) Q 68 [.ref r0, jk, .int x2] [] (sI μ10 r0_3 x2.toNatClampNeg (xI μ10 r0_3 (x2 + (w 1)).toNatClampNeg))
    obtain ⟨μ13, em13⟩ : ∃ m : XM, m = sI μ10 r0_3 x2.toNatClampNeg (xI μ10 r0_3 (x2 + (w 1)).toNatClampNeg) := ⟨_, rfl⟩
    replace h := h μ13 em13
    have hm13 : xN μ10 ≤ xN μ13 := by rw [em13]; exact Nat.le_refl _
    rw [← em13]
    refine run_ok (pc' := 2) [(.iinc 2 1, 0, 0, 0), (.goto (-69), 0, 0, 0)] _ _ _ _ (by decide +kernel) ?_
    show G Γ m_Pi_remove (d + 1) (0, 0) Q 2 [.ref r0, jk, .int (x2 + w 1)] [] μ13
    exact h
/-! FrostBox$Pile growOlder(I)V -/
set_option maxRecDepth 100000 in
theorem lm_6_37 : Lk_minI 6 37 := ⟨lwG_in (List.mem_of_getElem? (i := 791) rfl) rfl, lwG_in (List.mem_of_getElem? (i := 705) rfl) rfl, lwG_in (List.mem_of_getElem? (i := 130) rfl) rfl, lwG_in (List.mem_of_getElem? (i := 706) rfl) rfl⟩
set_option maxRecDepth 100000 in
theorem B_Pi_growOlder_0 {Γ : XG} {d : Nat} {Q : Option Value → XM → Prop} {r0 : Nat} {x1 : Int32} {μ : XM}  (h : G Γ m_Pi_growOlder (d + 1) (0, 0) Q 2 [.ref r0, .int x1, .int (w 0)] [] μ) : G Γ m_Pi_growOlder (d + 1) (0, 0) Q 0 [.ref r0, .int x1] [] μ := by
  refine run_ok (pc' := 2) [(.iconst 0, 0, 0, 0), (.istore_n 2, 0, 0, 0)] _ _ _ _ (by decide +kernel) ?_
  show G Γ m_Pi_growOlder (d + 1) (0, 0) Q 2 [.ref r0, .int x1, .int (w 0)] [] μ
  exact h
set_option maxRecDepth 100000 in
theorem B_Pi_growOlder_2 {Γ : XG} {d : Nat} {Q : Option Value → XM → Prop} {r0 r0_2 : Nat} {x1 x2 : Int32} {μ : XM} (o_r0_6 : ob μ r0 6) (e_r0_2 : xR μ r0 2 = some r0_2) (h : ((x2 < xI μ r0 4 → inb μ 0 r0_2 x2 ∧ inS μ 0 r0_2 x2 ∧ ∀ μ3, μ3 = sI μ r0_2 x2.toNatClampNeg (jmin (w 99) ((xI μ r0_2 x2.toNatClampNeg) + x1)) → G Γ m_Pi_growOlder (d + 1) (0, 0) Q 2 [.ref r0, .int x1, .int (x2 + w 1)] [] μ3) ∧ (¬ x2 < xI μ r0 4 → Q none μ))) : G Γ m_Pi_growOlder (d + 1) (0, 0) Q 2 [.ref r0, .int x1, .int x2] [] μ := by
  refine run_ok (pc' := 7) [(.iload_n 2, 0, 0, 0), (.aload_n 0, 0, 0, 0), (.getfield 24, 6, 4, 0)] _ _ _ _ (by decide +kernel) ?_
  show _ ∧ (_)
  refine ⟨o_r0_6, ?_⟩
  show G Γ m_Pi_growOlder (d + 1) (0, 0) Q 7 [.ref r0, .int x1, .int x2] [.int (xI μ r0 4), .int x2] μ
  refine g_icmp_ge (pc' := 35) (off := 28) (by decide) (by decide +kernel) (fun hc => ?_) (fun hc => ?_)
  · replace h := h.2 hc
    show G Γ m_Pi_growOlder (d + 1) (0, 0) Q 35 [.ref r0, .int x1, .int x2] [] μ
    exact g_retv (by decide +kernel) rfl h
  · replace h := h.1 hc
    show G Γ m_Pi_growOlder (d + 1) (0, 0) Q 10 [.ref r0, .int x1, .int x2] [] μ
    obtain ⟨ib1, h⟩ := h
    refine run_ok (pc' := 25) [(.aload_n 0, 0, 0, 0), (.getfield 18, 6, 2, 2), (.iload_n 2, 0, 0, 0), (.bipush 99, 0, 0, 0), (.aload_n 0, 0, 0, 0), (.getfield 18, 6, 2, 2), (.iload_n 2, 0, 0, 0), (.iaload, 0, 0, 0), (.iload_n 1, 0, 0, 0), (.iadd, 0, 0, 0)] _ _ _ _ (by decide +kernel) ?_
    show _ ∧ (∃ _, _ ∧ (_ ∧ (∃ _, _ ∧ (_ ∧ (_)))))
    refine ⟨o_r0_6, r0_2, e_r0_2, o_r0_6, r0_2, e_r0_2, ib1, ?_⟩
    show G Γ m_Pi_growOlder (d + 1) (0, 0) Q 25 [.ref r0, .int x1, .int x2] [.int ((xI μ r0_2 x2.toNatClampNeg) + x1), .int (w 99), .int x2, .ref r0_2] μ
    refine g_minI (i := 37) lm_6_37 (Nat.le_of_ble_eq_true rfl) (by decide +kernel) ?_
    show G Γ m_Pi_growOlder (d + 1) (0, 0) Q 28 [.ref r0, .int x1, .int x2] [.int (jmin (w 99) ((xI μ r0_2 x2.toNatClampNeg) + x1)), .int x2, .ref r0_2] μ
    obtain ⟨is2, h⟩ := h
    refine run_ok (pc' := 29) [(.iastore, 0, 0, 0)] _ _ _ _ (by decide +kernel) ?_
    show _ ∧ (_)
    refine ⟨is2, ?_⟩
    show G Γ m_Pi_growOlder (d + 1) (0, 0) Q 29 [.ref r0, .int x1, .int x2] [] (sI μ r0_2 x2.toNatClampNeg (jmin (w 99) ((xI μ r0_2 x2.toNatClampNeg) + x1)))
    obtain ⟨μ3, em3⟩ : ∃ m : XM, m = sI μ r0_2 x2.toNatClampNeg (jmin (w 99) ((xI μ r0_2 x2.toNatClampNeg) + x1)) := ⟨_, rfl⟩
    replace h := h μ3 em3
    have hm3 : xN μ ≤ xN μ3 := by rw [em3]; exact Nat.le_refl _
    rw [← em3]
    refine run_ok (pc' := 2) [(.iinc 2 1, 0, 0, 0), (.goto (-30), 0, 0, 0)] _ _ _ _ (by decide +kernel) ?_
    show G Γ m_Pi_growOlder (d + 1) (0, 0) Q 2 [.ref r0, .int x1, .int (x2 + w 1)] [] μ3
    exact h
/-! FrostBox$Pile passMonth(I)V -/
set_option maxRecDepth 100000 in
theorem lk_6_43 : LkV 6 43 m_Pi_growOlder 1 := ⟨lc_Pi_growOlder, lwG_in (List.mem_of_getElem? (i := 787) rfl) rfl, lwG_in (List.mem_of_getElem? (i := 788) rfl) rfl, lwG_in (List.mem_of_getElem? (i := 789) rfl) rfl⟩
set_option maxRecDepth 100000 in
theorem lk_6_47 : LkV 6 47 m_Pi_hasLabel 1 := ⟨lc_Pi_hasLabel, lwG_in (List.mem_of_getElem? (i := 792) rfl) rfl, lwG_in (List.mem_of_getElem? (i := 764) rfl) rfl, lwG_in (List.mem_of_getElem? (i := 765) rfl) rfl⟩
set_option maxRecDepth 100000 in
theorem B_Pi_passMonth_0 {Γ : XG} {d : Nat} {Q : Option Value → XM → Prop} {r0 : Nat} {x1 : Int32} {μ : XM} (o_r0_6 : ob μ r0 6) (h : Call Γ m_Pi_growOlder d [.ref r0, .int (w 1)] μ (KV (fun μ1 => ∀ μ2, μ2 = sI μ1 r0 5 ((xI μ1 r0 5) + (w 1)) → G Γ m_Pi_passMonth (d + 1) (0, 0) Q 17 [.ref r0, .int x1, .int (w 0)] [] μ2))) : G Γ m_Pi_passMonth (d + 1) (0, 0) Q 0 [.ref r0, .int x1] [] μ := by
  refine run_ok (pc' := 2) [(.aload_n 0, 0, 0, 0), (.iconst 1, 0, 0, 0)] _ _ _ _ (by decide +kernel) ?_
  show G Γ m_Pi_passMonth (d + 1) (0, 0) Q 2 [.ref r0, .int x1] [.int (w 1), .ref r0] μ
  refine g_invV (M' := m_Pi_growOlder) (b1 := 0) (b2 := 0) (As := [.int (w 1)]) (a := r0) (st := []) lk_6_43 (by decide +kernel) rfl (dk_Pi_growOlder d) (Nat.le_of_ble_eq_true rfl) (Or.inl ⟨6, o_r0_6, rfl⟩) h ?_
  rintro _ μ1 ⟨rfl, h⟩ hn1
  show G Γ m_Pi_passMonth (d + 1) (0, 0) Q 5 [.ref r0, .int x1] [] μ1
  refine run_ok (pc' := 15) [(.aload_n 0, 0, 0, 0), (.dup, 0, 0, 0), (.getfield 28, 6, 5, 0), (.iconst 1, 0, 0, 0), (.iadd, 0, 0, 0), (.putfield 28, 6, 5, 0)] _ _ _ _ (by decide +kernel) ?_
  show _ ∧ (_ ∧ (_))
  refine ⟨((o_r0_6).mono hn1), ((o_r0_6).mono hn1), ?_⟩
  show G Γ m_Pi_passMonth (d + 1) (0, 0) Q 15 [.ref r0, .int x1] [] (sI μ1 r0 5 ((xI μ1 r0 5) + (w 1)))
  obtain ⟨μ2, em2⟩ : ∃ m : XM, m = sI μ1 r0 5 ((xI μ1 r0 5) + (w 1)) := ⟨_, rfl⟩
  replace h := h μ2 em2
  have hm2 : xN μ1 ≤ xN μ2 := by rw [em2]; exact Nat.le_refl _
  rw [← em2]
  refine run_ok (pc' := 17) [(.iconst 0, 0, 0, 0), (.istore_n 2, 0, 0, 0)] _ _ _ _ (by decide +kernel) ?_
  show G Γ m_Pi_passMonth (d + 1) (0, 0) Q 17 [.ref r0, .int x1, .int (w 0)] [] μ2
  exact h
set_option maxRecDepth 100000 in
theorem B_Pi_passMonth_17 {Γ : XG} {d : Nat} {Q : Option Value → XM → Prop} {r0 : Nat} {x1 x2 : Int32} {μ : XM} (o_r0_6 : ob μ r0 6) (h : ((x2 < xI μ r0 4 → Call Γ m_Pi_hasLabel d [.ref r0, .int x2] μ (KI (fun v1 μ1 => ((v1 = w 0 → G Γ m_Pi_passMonth (d + 1) (0, 0) Q 17 [.ref r0, .int x1, .int (x2 + w 1)] [] μ1) ∧ (¬ v1 = w 0 → ∃ a2, xR μ1 r0 3 = some a2 ∧ inb μ1 0 a2 x2 ∧ (((xI μ1 r0 5) - (xI μ1 a2 x2.toNatClampNeg) < x1 → G Γ m_Pi_passMonth (d + 1) (0, 0) Q 17 [.ref r0, .int x1, .int (x2 + w 1)] [] μ1) ∧ (¬ (xI μ1 r0 5) - (xI μ1 a2 x2.toNatClampNeg) < x1 → inS μ1 0 a2 x2 ∧ ∀ μ5, μ5 = sI μ1 a2 x2.toNatClampNeg (w (-1)) → G Γ m_Pi_passMonth (d + 1) (0, 0) Q 17 [.ref r0, .int x1, .int (x2 + w 1)] [] μ5))))))) ∧ (¬ x2 < xI μ r0 4 → Q none μ))) : G Γ m_Pi_passMonth (d + 1) (0, 0) Q 17 [.ref r0, .int x1, .int x2] [] μ := by
  refine run_ok (pc' := 22) [(.iload_n 2, 0, 0, 0), (.aload_n 0, 0, 0, 0), (.getfield 24, 6, 4, 0)] _ _ _ _ (by decide +kernel) ?_
  show _ ∧ (_)
  refine ⟨o_r0_6, ?_⟩
  show G Γ m_Pi_passMonth (d + 1) (0, 0) Q 22 [.ref r0, .int x1, .int x2] [.int (xI μ r0 4), .int x2] μ
  refine g_icmp_ge (pc' := 61) (off := 39) (by decide) (by decide +kernel) (fun hc => ?_) (fun hc => ?_)
  · replace h := h.2 hc
    show G Γ m_Pi_passMonth (d + 1) (0, 0) Q 61 [.ref r0, .int x1, .int x2] [] μ
    exact g_retv (by decide +kernel) rfl h
  · replace h := h.1 hc
    show G Γ m_Pi_passMonth (d + 1) (0, 0) Q 25 [.ref r0, .int x1, .int x2] [] μ
    refine run_ok (pc' := 27) [(.aload_n 0, 0, 0, 0), (.iload_n 2, 0, 0, 0)] _ _ _ _ (by decide +kernel) ?_
    show G Γ m_Pi_passMonth (d + 1) (0, 0) Q 27 [.ref r0, .int x1, .int x2] [.int x2, .ref r0] μ
    refine g_invV (M' := m_Pi_hasLabel) (b1 := 0) (b2 := 0) (As := [.int x2]) (a := r0) (st := []) lk_6_47 (by decide +kernel) rfl (dk_Pi_hasLabel d) (Nat.le_of_ble_eq_true rfl) (Or.inl ⟨6, o_r0_6, rfl⟩) h ?_
    rintro _ μ1 ⟨v1, rfl, h⟩ hn1
    show G Γ m_Pi_passMonth (d + 1) (0, 0) Q 30 [.ref r0, .int x1, .int x2] [.int v1] μ1
    refine g_ifz_eq (pc' := 55) (off := 25) (by decide) (by decide +kernel) (fun hc => ?_) (fun hc => ?_)
    · replace h := h.1 hc
      show G Γ m_Pi_passMonth (d + 1) (0, 0) Q 55 [.ref r0, .int x1, .int x2] [] μ1
      refine run_ok (pc' := 17) [(.iinc 2 1, 0, 0, 0), (.goto (-41), 0, 0, 0)] _ _ _ _ (by decide +kernel) ?_
      show G Γ m_Pi_passMonth (d + 1) (0, 0) Q 17 [.ref r0, .int x1, .int (x2 + w 1)] [] μ1
      exact h
    · replace h := h.2 hc
      show G Γ m_Pi_passMonth (d + 1) (0, 0) Q 33 [.ref r0, .int x1, .int x2] [] μ1
      obtain ⟨a2, ea2, h⟩ := h
      obtain ⟨ib3, h⟩ := h
      refine run_ok (pc' := 45) [(.aload_n 0, 0, 0, 0), (.getfield 28, 6, 5, 0), (.aload_n 0, 0, 0, 0), (.getfield 21, 6, 3, 2), (.iload_n 2, 0, 0, 0), (.iaload, 0, 0, 0), (.isub, 0, 0, 0), (.iload_n 1, 0, 0, 0)] _ _ _ _ (by decide +kernel) ?_
      show _ ∧ (_ ∧ (∃ _, _ ∧ (_ ∧ (_))))
      refine ⟨((o_r0_6).mono hn1), ((o_r0_6).mono hn1), a2, ea2, ib3, ?_⟩
      show G Γ m_Pi_passMonth (d + 1) (0, 0) Q 45 [.ref r0, .int x1, .int x2] [.int x1, .int ((xI μ1 r0 5) - (xI μ1 a2 x2.toNatClampNeg))] μ1
      refine g_icmp_lt (pc' := 55) (off := 10) (by decide) (by decide +kernel) (fun hc => ?_) (fun hc => ?_)
      · replace h := h.1 hc
        show G Γ m_Pi_passMonth (d + 1) (0, 0) Q 55 [.ref r0, .int x1, .int x2] [] μ1
        refine run_ok (pc' := 17) [(.iinc 2 1, 0, 0, 0), (.goto (-41), 0, 0, 0)] _ _ _ _ (by decide +kernel) ?_
        show G Γ m_Pi_passMonth (d + 1) (0, 0) Q 17 [.ref r0, .int x1, .int (x2 + w 1)] [] μ1
        exact h
      · replace h := h.2 hc
        show G Γ m_Pi_passMonth (d + 1) (0, 0) Q 48 [.ref r0, .int x1, .int x2] [] μ1
        obtain ⟨is4, h⟩ := h
        refine run_ok (pc' := 55) [(.aload_n 0, 0, 0, 0), (.getfield 21, 6, 3, 2), (.iload_n 2, 0, 0, 0), (.iconst (-1), 0, 0, 0), (.iastore, 0, 0, 0)] _ _ _ _ (by decide +kernel) ?_
        show _ ∧ (∃ _, _ ∧ (_ ∧ (_)))
        refine ⟨((o_r0_6).mono hn1), a2, ea2, is4, ?_⟩
        show G Γ m_Pi_passMonth (d + 1) (0, 0) Q 55 [.ref r0, .int x1, .int x2] [] (sI μ1 a2 x2.toNatClampNeg (w (-1)))
        obtain ⟨μ5, em5⟩ : ∃ m : XM, m = sI μ1 a2 x2.toNatClampNeg (w (-1)) := ⟨_, rfl⟩
        replace h := h μ5 em5
        have hm5 : xN μ1 ≤ xN μ5 := by rw [em5]; exact Nat.le_refl _
        rw [← em5]
        refine run_ok (pc' := 17) [(.iinc 2 1, 0, 0, 0), (.goto (-41), 0, 0, 0)] _ _ _ _ (by decide +kernel) ?_
        show G Γ m_Pi_passMonth (d + 1) (0, 0) Q 17 [.ref r0, .int x1, .int (x2 + w 1)] [] μ5
        exact h
