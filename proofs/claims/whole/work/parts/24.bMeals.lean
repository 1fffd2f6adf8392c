/-! FrostBox$Meals add(IIII)V -/
set_option maxRecDepth 100000 in
theorem B_Me_add_0 {Γ : XG} {d : Nat} {Q : Option Value → XM → Prop} {r0 r0_0 : Nat} {x1 x2 x3 x4 : Int32} {μ : XM} (o_r0_4 : ob μ r0 4) (e_r0_0 : xR μ r0 0 = some r0_0) (h : ¬ (w 100) = 0 ∧ inb μ 8 r0_0 ((xI μ r0 1) - (xI μ r0 1) / (w 100) * (w 100)) ∧ ∃ a2, xR μ r0_0 ((xI μ r0 1) - (xI μ r0 1) / (w 100) * (w 100)).toNatClampNeg = some a2 ∧ inS μ 0 a2 (w 0) ∧ ∀ μ4, μ4 = sI μ a2 (w 0).toNatClampNeg x1 → inS μ4 0 a2 (w 1) ∧ ∀ μ6, μ6 = sI μ4 a2 (w 1).toNatClampNeg x2 → inS μ6 0 a2 (w 2) ∧ ∀ μ8, μ8 = sI μ6 a2 (w 2).toNatClampNeg x3 → inS μ8 0 a2 (w 3) ∧ ∀ μ10, μ10 = sI μ8 a2 (w 3).toNatClampNeg x4 → ∀ μ11, μ11 = sI μ10 r0 1 ((xI μ10 r0 1) + (w 1)) → Q none μ11) : G Γ m_Me_add (d + 1) (0, 0) Q 0 [.ref r0, .int x1, .int x2, .int x3, .int x4] [] μ := by
  obtain ⟨nz1, h⟩ := h
  obtain ⟨ib2, h⟩ := h
  obtain ⟨a2, ea2, h⟩ := h
  obtain ⟨is3, h⟩ := h
  refine run_ok (pc' := 19) [(.aload_n 0, 0, 0, 0), (.getfield 13, 4, 0, 2), (.aload_n 0, 0, 0, 0), (.getfield 16, 4, 1, 0), (.bipush 100, 0, 0, 0), (.irem, 0, 0, 0), (.aaload, 8, 0, 0), (.astore 5, 0, 0, 0), (.aload 5, 0, 0, 0), (.iconst 0, 0, 0, 0), (.iload_n 1, 0, 0, 0), (.iastore, 0, 0, 0)] _ _ _ _ (by decide +kernel) ?_
  show _ ∧ (∃ _, _ ∧ (_ ∧ (_ ∧ (_ ∧ (∃ _, _ ∧ (_ ∧ (_)))))))
  refine ⟨o_r0_4, r0_0, e_r0_0, o_r0_4, nz1, ib2, a2, ea2, is3, ?_⟩
  show G Γ m_Me_add (d + 1) (0, 0) Q 19 [.ref r0, .int x1, .int x2, .int x3, .int x4, .ref a2] [] (sI μ a2 (w 0).toNatClampNeg x1)
  obtain ⟨μ4, em4⟩ : ∃ m : XM, m = sI μ a2 (w 0).toNatClampNeg x1 := ⟨_, rfl⟩
  replace h := h μ4 em4
  have hm4 : xN μ ≤ xN μ4 := by rw [em4]; exact Nat.le_refl _
  rw [← em4]
  obtain ⟨is5, h⟩ := h
  refine run_ok (pc' := 24) [(.aload 5, 0, 0, 0), (.iconst 1, 0, 0, 0), (.iload_n 2, 0, 0, 0), (.iastore, 0, 0, 0)] _ _ _ _ (by decide +kernel) ?_
  show _ ∧ (_)
  refine ⟨is5, ?_⟩
  show G Γ m_Me_add (d + 1) (0, 0) Q 24 [.ref r0, .int x1, .int x2, .int x3, .int x4, .ref a2] [] (sI μ4 a2 (w 1).toNatClampNeg x2)
  obtain ⟨μ6, em6⟩ : ∃ m : XM, m = sI μ4 a2 (w 1).toNatClampNeg x2 := ⟨_, rfl⟩
  replace h := h μ6 em6
  have hm6 : xN μ4 ≤ xN μ6 := by rw [em6]; exact Nat.le_refl _
  rw [← em6]
  obtain ⟨is7, h⟩ := h
  refine run_ok (pc' := 29) [(.aload 5, 0, 0, 0), (.iconst 2, 0, 0, 0), (.iload_n 3, 0, 0, 0), (.iastore, 0, 0, 0)] _ _ _ _ (by decide +kernel) ?_
  show _ ∧ (_)
  refine ⟨is7, ?_⟩
  show G Γ m_Me_add (d + 1) (0, 0) Q 29 [.ref r0, .int x1, .int x2, .int x3, .int x4, .ref a2] [] (sI μ6 a2 (w 2).toNatClampNeg x3)
  obtain ⟨μ8, em8⟩ : ∃ m : XM, m = sI μ6 a2 (w 2).toNatClampNeg x3 := ⟨_, rfl⟩
  replace h := h μ8 em8
  have hm8 : xN μ6 ≤ xN μ8 := by rw [em8]; exact Nat.le_refl _
  rw [← em8]
  obtain ⟨is9, h⟩ := h
  refine run_ok (pc' := 35) [(.aload 5, 0, 0, 0), (.iconst 3, 0, 0, 0), (.iload 4, 0, 0, 0), (.iastore, 0, 0, 0)] _ _ _ _ (by decide +kernel) ?_
  show _ ∧ (_)
  refine ⟨is9, ?_⟩
  show G Γ m_Me_add (d + 1) (0, 0) Q 35 [.ref r0, .int x1, .int x2, .int x3, .int x4, .ref a2] [] (sI μ8 a2 (w 3).toNatClampNeg x4)
  obtain ⟨μ10, em10⟩ : ∃ m : XM, m = sI μ8 a2 (w 3).toNatClampNeg x4 := ⟨_, rfl⟩
  replace h := h μ10 em10
  have hm10 : xN μ8 ≤ xN μ10 := by rw [em10]; exact Nat.le_refl _
  rw [← em10]
  refine run_ok (pc' := 45) [(.aload_n 0, 0, 0, 0), (.dup, 0, 0, 0), (.getfield 16, 4, 1, 0), (.iconst 1, 0, 0, 0), (.iadd, 0, 0, 0), (.putfield 16, 4, 1, 0)] _ _ _ _ (by decide +kernel) ?_
  show _ ∧ (_ ∧ (_))
  refine ⟨(((((o_r0_4).mono hm4).mono hm6).mono hm8).mono hm10), (((((o_r0_4).mono hm4).mono hm6).mono hm8).mono hm10), ?_⟩
  show G Γ m_Me_add (d + 1) (0, 0) Q 45 [.ref r0, .int x1, .int x2, .int x3, .int x4, .ref a2] [] (sI μ10 r0 1 ((xI μ10 r0 1) + (w 1)))
  obtain ⟨μ11, em11⟩ : ∃ m : XM, m = sI μ10 r0 1 ((xI μ10 r0 1) + (w 1)) := ⟨_, rfl⟩
  replace h := h μ11 em11
  have hm11 : xN μ10 ≤ xN μ11 := by rw [em11]; exact Nat.le_refl _
  rw [← em11]
  exact g_retv (by decide +kernel) rfl h
/-! FrostBox$Meals length()I -/
set_option maxRecDepth 100000 in
theorem lm_4_20 : Lk_minI 4 20 := ⟨lwG_in (List.mem_of_getElem? (i := 842) rfl) rfl, lwG_in (List.mem_of_getElem? (i := 705) rfl) rfl, lwG_in (List.mem_of_getElem? (i := 130) rfl) rfl, lwG_in (List.mem_of_getElem? (i := 706) rfl) rfl⟩
set_option maxRecDepth 100000 in
theorem B_Me_length_0 {Γ : XG} {d : Nat} {Q : Option Value → XM → Prop} {r0 : Nat} {μ : XM} (o_r0_4 : ob μ r0 4) (h : Q (some (.int (jmin (w 60) (xI μ r0 1)))) μ) : G Γ m_Me_length (d + 1) (0, 0) Q 0 [.ref r0] [] μ := by
  refine run_ok (pc' := 6) [(.bipush 60, 0, 0, 0), (.aload_n 0, 0, 0, 0), (.getfield 16, 4, 1, 0)] _ _ _ _ (by decide +kernel) ?_
  show _ ∧ (_)
  refine ⟨o_r0_4, ?_⟩
  show G Γ m_Me_length (d + 1) (0, 0) Q 6 [.ref r0] [.int (xI μ r0 1), .int (w 60)] μ
  refine g_minI (i := 20) lm_4_20 (Nat.le_of_ble_eq_true rfl) (by decide +kernel) ?_
  show G Γ m_Me_length (d + 1) (0, 0) Q 9 [.ref r0] [.int (jmin (w 60) (xI μ r0 1))] μ
  exact g_reti (by decide +kernel) rfl h
/-! FrostBox$Meals told(II)I -/
set_option maxRecDepth 100000 in
theorem B_Me_told_0 {Γ : XG} {d : Nat} {Q : Option Value → XM → Prop} {r0 r0_0 : Nat} {x1 x2 : Int32} {μ : XM} (o_r0_4 : ob μ r0 4) (e_r0_0 : xR μ r0 0 = some r0_0) (h : ¬ (w 100) = 0 ∧ inb μ 8 r0_0 ((((xI μ r0 1) - (w 1)) - x1) - (((xI μ r0 1) - (w 1)) - x1) / (w 100) * (w 100)) ∧ ∃ a2, xR μ r0_0 ((((xI μ r0 1) - (w 1)) - x1) - (((xI μ r0 1) - (w 1)) - x1) / (w 100) * (w 100)).toNatClampNeg = some a2 ∧ inb μ 0 a2 x2 ∧ Q (some (.int (xI μ a2 x2.toNatClampNeg))) μ) : G Γ m_Me_told (d + 1) (0, 0) Q 0 [.ref r0, .int x1, .int x2] [] μ := by
  obtain ⟨nz1, h⟩ := h
  obtain ⟨ib2, h⟩ := h
  obtain ⟨a2, ea2, h⟩ := h
  obtain ⟨ib3, h⟩ := h
  refine run_ok (pc' := 18) [(.aload_n 0, 0, 0, 0), (.getfield 13, 4, 0, 2), (.aload_n 0, 0, 0, 0), (.getfield 16, 4, 1, 0), (.iconst 1, 0, 0, 0), (.isub, 0, 0, 0), (.iload_n 1, 0, 0, 0), (.isub, 0, 0, 0), (.bipush 100, 0, 0, 0), (.irem, 0, 0, 0), (.aaload, 8, 0, 0), (.iload_n 2, 0, 0, 0), (.iaload, 0, 0, 0)] _ _ _ _ (by decide +kernel) ?_
  show _ ∧ (∃ _, _ ∧ (_ ∧ (_ ∧ (_ ∧ (∃ _, _ ∧ (_ ∧ (_)))))))
  refine ⟨o_r0_4, r0_0, e_r0_0, o_r0_4, nz1, ib2, a2, ea2, ib3, ?_⟩
  show G Γ m_Me_told (d + 1) (0, 0) Q 18 [.ref r0, .int x1, .int x2] [.int (xI μ a2 x2.toNatClampNeg)] μ
  exact g_reti (by decide +kernel) rfl h
/-! FrostBox$Meals valueInAll()I -/
set_option maxRecDepth 100000 in
theorem lk_4_30 : LkV 4 30 m_Me_told 2 := ⟨lc_Me_told, lwG_in (List.mem_of_getElem? (i := 1128) rfl) rfl, lwG_in (List.mem_of_getElem? (i := 844) rfl) rfl, lwG_in (List.mem_of_getElem? (i := 845) rfl) rfl⟩
set_option maxRecDepth 100000 in
theorem lk_4_26 : LkV 4 26 m_Me_length 0 := ⟨lc_Me_length, lwG_in (List.mem_of_getElem? (i := 1127) rfl) rfl, lwG_in (List.mem_of_getElem? (i := 839) rfl) rfl, lwG_in (List.mem_of_getElem? (i := 840) rfl) rfl⟩
set_option maxRecDepth 100000 in
theorem B_Me_valueInAll_0 {Γ : XG} {d : Nat} {Q : Option Value → XM → Prop} {r0 : Nat} {μ : XM}  (h : G Γ m_Me_valueInAll (d + 1) (0, 0) Q 4 [.ref r0, .int (w 0), .int (w 0)] [] μ) : G Γ m_Me_valueInAll (d + 1) (0, 0) Q 0 [.ref r0] [] μ := by
  refine run_ok (pc' := 4) [(.iconst 0, 0, 0, 0), (.istore_n 1, 0, 0, 0), (.iconst 0, 0, 0, 0), (.istore_n 2, 0, 0, 0)] _ _ _ _ (by decide +kernel) ?_
  show G Γ m_Me_valueInAll (d + 1) (0, 0) Q 4 [.ref r0, .int (w 0), .int (w 0)] [] μ
  exact h
set_option maxRecDepth 100000 in
theorem B_Me_valueInAll_4 {Γ : XG} {d : Nat} {Q : Option Value → XM → Prop} {r0 : Nat} {x1 x2 : Int32} {μ : XM} (o_r0_4 : ob μ r0 4) (h : Call Γ m_Me_length d [.ref r0] μ (KI (fun v1 μ1 => ((x2 < v1 → Call Γ m_Me_told d [.ref r0, .int x2, .int (w 3)] μ1 (KI (fun v2 μ2 => G Γ m_Me_valueInAll (d + 1) (0, 0) Q 4 [.ref r0, .int (x1 + v2), .int (x2 + w 1)] [] μ2))) ∧ (¬ x2 < v1 → Q (some (.int x1)) μ1))))) : G Γ m_Me_valueInAll (d + 1) (0, 0) Q 4 [.ref r0, .int x1, .int x2] [] μ := by
  refine run_ok (pc' := 6) [(.iload_n 2, 0, 0, 0), (.aload_n 0, 0, 0, 0)] _ _ _ _ (by decide +kernel) ?_
  show G Γ m_Me_valueInAll (d + 1) (0, 0) Q 6 [.ref r0, .int x1, .int x2] [.ref r0, .int x2] μ
  refine g_invV (M' := m_Me_length) (b1 := 0) (b2 := 0) (As := []) (a := r0) (st := [.int x2]) lk_4_26 (by decide +kernel) rfl (dk_Me_length d) (Nat.le_of_ble_eq_true rfl) (Or.inl ⟨4, o_r0_4, rfl⟩) h ?_
  rintro _ μ1 ⟨v1, rfl, h⟩ hn1
  show G Γ m_Me_valueInAll (d + 1) (0, 0) Q 9 [.ref r0, .int x1, .int x2] [.int v1, .int x2] μ1
  refine g_icmp_ge (pc' := 27) (off := 18) (by decide) (by decide +kernel) (fun hc => ?_) (fun hc => ?_)
  · replace h := h.2 hc
    show G Γ m_Me_valueInAll (d + 1) (0, 0) Q 27 [.ref r0, .int x1, .int x2] [] μ1
    refine run_ok (pc' := 28) [(.iload_n 1, 0, 0, 0)] _ _ _ _ (by decide +kernel) ?_
    show G Γ m_Me_valueInAll (d + 1) (0, 0) Q 28 [.ref r0, .int x1, .int x2] [.int x1] μ1
    exact g_reti (by decide +kernel) rfl h
  · replace h := h.1 hc
    show G Γ m_Me_valueInAll (d + 1) (0, 0) Q 12 [.ref r0, .int x1, .int x2] [] μ1
    refine run_ok (pc' := 16) [(.iload_n 1, 0, 0, 0), (.aload_n 0, 0, 0, 0), (.iload_n 2, 0, 0, 0), (.iconst 3, 0, 0, 0)] _ _ _ _ (by decide +kernel) ?_
    show G Γ m_Me_valueInAll (d + 1) (0, 0) Q 16 [.ref r0, .int x1, .int x2] [.int (w 3), .int x2, .ref r0, .int x1] μ1
    refine g_invV (M' := m_Me_told) (b1 := 0) (b2 := 0) (As := [.int x2, .int (w 3)]) (a := r0) (st := [.int x1]) lk_4_30 (by decide +kernel) rfl (dk_Me_told d) (Nat.le_of_ble_eq_true rfl) (Or.inl ⟨4, ((o_r0_4).mono hn1), rfl⟩) h ?_
    rintro _ μ2 ⟨v2, rfl, h⟩ hn2
    show G Γ m_Me_valueInAll (d + 1) (0, 0) Q 19 [.ref r0, .int x1, .int x2] [.int v2, .int x1] μ2
    refine run_ok (pc' := 4) [(.iadd, 0, 0, 0), (.istore_n 1, 0, 0, 0), (.iinc 2 1, 0, 0, 0), (.goto (-20), 0, 0, 0)] _ _ _ _ (by decide +kernel) ?_
    show G Γ m_Me_valueInAll (d + 1) (0, 0) Q 4 [.ref r0, .int (x1 + v2), .int (x2 + w 1)] [] μ2
    exact h
/-! FrostBox$Meals copyFrom(LFrostBox$Meals;)V -/
set_option maxRecDepth 100000 in
theorem ac_4_33 : Cond.methodLink (cnm 4) 33 arraycopyName ∈ lwG ∧ Cond.native arraycopyName ∈ lwG ∧ Cond.static arraycopyName ∈ lwG ∧ Cond.initialized "java/lang/System" ∈ lwG := ⟨lwG_in (List.mem_of_getElem? (i := 860) rfl) rfl, lwG_in (List.mem_of_getElem? (i := 481) rfl) rfl, lwG_in (List.mem_of_getElem? (i := 480) rfl) rfl, lwG_in (List.mem_of_getElem? (i := 125) rfl) rfl⟩
set_option maxRecDepth 100000 in
theorem B_Me_copyFrom_0 {Γ : XG} {d : Nat} {Q : Option Value → XM → Prop} {r0 r1 : Nat} {μ : XM}  (h : G Γ m_Me_copyFrom (d + 2) (0, 0) Q 2 [.ref r0, .ref r1, .int (w 0)] [] μ) : G Γ m_Me_copyFrom (d + 2) (0, 0) Q 0 [.ref r0, .ref r1] [] μ := by
  refine run_ok (pc' := 2) [(.iconst 0, 0, 0, 0), (.istore_n 2, 0, 0, 0)] _ _ _ _ (by decide +kernel) ?_
  show G Γ m_Me_copyFrom (d + 2) (0, 0) Q 2 [.ref r0, .ref r1, .int (w 0)] [] μ
  exact h
set_option maxRecDepth 100000 in
theorem B_Me_copyFrom_2 {Γ : XG} {d : Nat} {Q : Option Value → XM → Prop} {r0 r1 r1_0 r0_0 : Nat} {x2 : Int32} {μ : XM} (o_r1_4 : ob μ r1 4) (o_r0_4 : ob μ r0 4) (e_r1_0 : xR μ r1 0 = some r1_0) (e_r0_0 : xR μ r0 0 = some r0_0) (h : ((x2 < w 100 → inb μ 8 r1_0 x2 ∧ ∃ a2, xR μ r1_0 x2.toNatClampNeg = some a2 ∧ inb μ 8 r0_0 x2 ∧ ∃ a3, xR μ r0_0 x2.toNatClampNeg = some a3 ∧ cpo μ a2 a3 4 ∧ ∀ μ5, μ5 = sC μ a2 a3 4 → G Γ m_Me_copyFrom (d + 2) (0, 0) Q 2 [.ref r0, .ref r1, .int (x2 + w 1)] [] μ5) ∧ (¬ x2 < w 100 → ∀ μ1, μ1 = sI μ r0 1 (xI μ r1 1) → Q none μ1))) : G Γ m_Me_copyFrom (d + 2) (0, 0) Q 2 [.ref r0, .ref r1, .int x2] [] μ := by
  refine run_ok (pc' := 5) [(.iload_n 2, 0, 0, 0), (.bipush 100, 0, 0, 0)] _ _ _ _ (by decide +kernel) ?_
  show G Γ m_Me_copyFrom (d + 2) (0, 0) Q 5 [.ref r0, .ref r1, .int x2] [.int (w 100), .int x2] μ
  refine g_icmp_ge (pc' := 32) (off := 27) (by decide) (by decide +kernel) (fun hc => ?_) (fun hc => ?_)
  · replace h := h.2 hc
    show G Γ m_Me_copyFrom (d + 2) (0, 0) Q 32 [.ref r0, .ref r1, .int x2] [] μ
    refine run_ok (pc' := 40) [(.aload_n 0, 0, 0, 0), (.aload_n 1, 0, 0, 0), (.getfield 16, 4, 1, 0), (.putfield 16, 4, 1, 0)] _ _ _ _ (by decide +kernel) ?_
    show _ ∧ (_ ∧ (_))
    refine ⟨o_r1_4, o_r0_4, ?_⟩
    show G Γ m_Me_copyFrom (d + 2) (0, 0) Q 40 [.ref r0, .ref r1, .int x2] [] (sI μ r0 1 (xI μ r1 1))
    obtain ⟨μ1, em1⟩ : ∃ m : XM, m = sI μ r0 1 (xI μ r1 1) := ⟨_, rfl⟩
    replace h := h μ1 em1
    have hm1 : xN μ ≤ xN μ1 := by rw [em1]; exact Nat.le_refl _
    rw [← em1]
    exact g_retv (by decide +kernel) rfl h
  · replace h := h.1 hc
    show G Γ m_Me_copyFrom (d + 2) (0, 0) Q 8 [.ref r0, .ref r1, .int x2] [] μ
    obtain ⟨ib2, h⟩ := h
    obtain ⟨a2, ea2, h⟩ := h
    obtain ⟨ib3, h⟩ := h
    obtain ⟨a3, ea3, h⟩ := h
    refine run_ok (pc' := 23) [(.aload_n 1, 0, 0, 0), (.getfield 13, 4, 0, 2), (.iload_n 2, 0, 0, 0), (.aaload, 8, 0, 0), (.iconst 0, 0, 0, 0), (.aload_n 0, 0, 0, 0), (.getfield 13, 4, 0, 2), (.iload_n 2, 0, 0, 0), (.aaload, 8, 0, 0), (.iconst 0, 0, 0, 0), (.iconst 4, 0, 0, 0)] _ _ _ _ (by decide +kernel) ?_
    show _ ∧ (∃ _, _ ∧ (_ ∧ (∃ _, _ ∧ (_ ∧ (∃ _, _ ∧ (_ ∧ (∃ _, _ ∧ (_))))))))
    refine ⟨o_r1_4, r1_0, e_r1_0, ib2, a2, ea2, o_r0_4, r0_0, e_r0_0, ib3, a3, ea3, ?_⟩
    show G Γ m_Me_copyFrom (d + 2) (0, 0) Q 23 [.ref r0, .ref r1, .int x2] [.int (w 4), .int (w 0), .ref a3, .int (w 0), .ref a2] μ
    obtain ⟨cp4, h⟩ := h
    refine g_cpy (i := 33) (n := 4) ac_4_33.1 ac_4_33.2 (by decide) (Nat.le_of_ble_eq_true rfl) (by decide +kernel) cp4 ?_
    show G Γ m_Me_copyFrom (d + 2) (0, 0) Q 26 [.ref r0, .ref r1, .int x2] [] (sC μ a2 a3 4)
    obtain ⟨μ5, em5⟩ : ∃ m : XM, m = sC μ a2 a3 4 := ⟨_, rfl⟩
    replace h := h μ5 em5
    have hm5 : xN μ ≤ xN μ5 := by rw [em5]; exact Nat.le_refl _
    rw [← em5]
    refine run_ok (pc' := 2) [(.iinc 2 1, 0, 0, 0), (.goto (-27), 0, 0, 0)] _ _ _ _ (by decide +kernel) ?_
    show G Γ m_Me_copyFrom (d + 2) (0, 0) Q 2 [.ref r0, .ref r1, .int (x2 + w 1)] [] μ5
    exact h
