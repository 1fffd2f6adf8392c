/-! FrostBox$Acts save(LFrostBox$Pile;I)V -/
set_option maxRecDepth 100000 in
theorem lm_0_33 : Lk_minI 0 33 := ⟨lwG_in (List.mem_of_getElem? (i := 704) rfl) rfl, lwG_in (List.mem_of_getElem? (i := 705) rfl) rfl, lwG_in (List.mem_of_getElem? (i := 130) rfl) rfl, lwG_in (List.mem_of_getElem? (i := 706) rfl) rfl⟩
set_option maxRecDepth 100000 in
theorem lk_0_26 : LkV 0 26 m_Pi_copyFrom 1 := ⟨lc_Pi_copyFrom, lwG_in (List.mem_of_getElem? (i := 703) rfl) rfl, lwG_in (List.mem_of_getElem? (i := 658) rfl) rfl, lwG_in (List.mem_of_getElem? (i := 659) rfl) rfl⟩
set_option maxRecDepth 100000 in
theorem B_Ac_save_0 {Γ : XG} {d : Nat} {Q : Option Value → XM → Prop} {r0 r1 r0_0 : Nat} {x2 : Int32} {μ : XM} (o_r0_0 : ob μ r0 0) (e_r0_0 : xR μ r0 0 = some r0_0) (h : inb μ 7 r0_0 (xI μ r0 2) ∧ ∃ a1, xR μ r0_0 (xI μ r0 2).toNatClampNeg = some a1 ∧ ob μ a1 6 ∧ Call Γ m_Pi_copyFrom d [.ref a1, .ref r1] μ (KV (fun μ2 => ∃ a3, xR μ2 r0 1 = some a3 ∧ inS μ2 0 a3 (xI μ2 r0 2) ∧ ∀ μ5, μ5 = sI μ2 a3 (xI μ2 r0 2).toNatClampNeg x2 → ¬ (w 40) = 0 ∧ ∀ μ7, μ7 = sI μ5 r0 2 (((xI μ5 r0 2) + (w 1)) - ((xI μ5 r0 2) + (w 1)) / (w 40) * (w 40)) → ∀ μ8, μ8 = sI μ7 r0 3 (jmin (w 40) ((xI μ7 r0 3) + (w 1))) → Q none μ8))) : G Γ m_Ac_save (d + 1) (0, 0) Q 0 [.ref r0, .ref r1, .int x2] [] μ := by
  obtain ⟨ib1, h⟩ := h
  obtain ⟨a1, ea1, h⟩ := h
  refine run_ok (pc' := 10) [(.aload_n 0, 0, 0, 0), (.getfield 11, 0, 0, 2), (.aload_n 0, 0, 0, 0), (.getfield 22, 0, 2, 0), (.aaload, 7, 0, 0), (.aload_n 1, 0, 0, 0)] _ _ _ _ (by decide +kernel) ?_
  show _ ∧ (∃ _, _ ∧ (_ ∧ (_ ∧ (∃ _, _ ∧ (_)))))
  refine ⟨o_r0_0, r0_0, e_r0_0, o_r0_0, ib1, a1, ea1, ?_⟩
  show G Γ m_Ac_save (d + 1) (0, 0) Q 10 [.ref r0, .ref r1, .int x2] [.ref r1, .ref a1] μ
  obtain ⟨o_a1_6, h⟩ := h
  refine g_invV (M' := m_Pi_copyFrom) (b1 := 0) (b2 := 0) (As := [.ref r1]) (a := a1) (st := []) lk_0_26 (by decide +kernel) rfl (dk_Pi_copyFrom d) (Nat.le_of_ble_eq_true rfl) (Or.inl ⟨6, o_a1_6, rfl⟩) h ?_
  rintro _ μ2 ⟨rfl, h⟩ hn2
  show G Γ m_Ac_save (d + 1) (0, 0) Q 13 [.ref r0, .ref r1, .int x2] [] μ2
  obtain ⟨a3, ea3, h⟩ := h
  obtain ⟨is4, h⟩ := h
  refine run_ok (pc' := 23) [(.aload_n 0, 0, 0, 0), (.getfield 17, 0, 1, 2), (.aload_n 0, 0, 0, 0), (.getfield 22, 0, 2, 0), (.iload_n 2, 0, 0, 0), (.iastore, 0, 0, 0)] _ _ _ _ (by decide +kernel) ?_
  show _ ∧ (∃ _, _ ∧ (_ ∧ (_ ∧ (_))))
  refine ⟨((o_r0_0).mono hn2), a3, ea3, ((o_r0_0).mono hn2), is4, ?_⟩
  show G Γ m_Ac_save (d + 1) (0, 0) Q 23 [.ref r0, .ref r1, .int x2] [] (sI μ2 a3 (xI μ2 r0 2).toNatClampNeg x2)
  obtain ⟨μ5, em5⟩ : ∃ m : XM, m = sI μ2 a3 (xI μ2 r0 2).toNatClampNeg x2 := ⟨_, rfl⟩
  replace h := h μ5 em5
  have hm5 : xN μ2 ≤ xN μ5 := by rw [em5]; exact Nat.le_refl _
  rw [← em5]
  obtain ⟨nz6, h⟩ := h
  refine run_ok (pc' := 36) [(.aload_n 0, 0, 0, 0), (.aload_n 0, 0, 0, 0), (.getfield 22, 0, 2, 0), (.iconst 1, 0, 0, 0), (.iadd, 0, 0, 0), (.bipush 40, 0, 0, 0), (.irem, 0, 0, 0), (.putfield 22, 0, 2, 0)] _ _ _ _ (by decide +kernel) ?_
  show _ ∧ (_ ∧ (_ ∧ (_)))
  refine ⟨(((o_r0_0).mono hn2).mono hm5), nz6, (((o_r0_0).mono hn2).mono hm5), ?_⟩
  show G Γ m_Ac_save (d + 1) (0, 0) Q 36 [.ref r0, .ref r1, .int x2] [] (sI μ5 r0 2 (((xI μ5 r0 2) + (w 1)) - ((xI μ5 r0 2) + (w 1)) / (w 40) * (w 40)))
  obtain ⟨μ7, em7⟩ : ∃ m : XM, m = sI μ5 r0 2 (((xI μ5 r0 2) + (w 1)) - ((xI μ5 r0 2) + (w 1)) / (w 40) * (w 40)) := ⟨_, rfl⟩
  replace h := h μ7 em7
  have hm7 : xN μ5 ≤ xN μ7 := by rw [em7]; exact Nat.le_refl _
  rw [← em7]
  refine run_ok (pc' := 45) [(.aload_n 0, 0, 0, 0), (.bipush 40, 0, 0, 0), (.aload_n 0, 0, 0, 0), (.getfield 30, 0, 3, 0), (.iconst 1, 0, 0, 0), (.iadd, 0, 0, 0)] _ _ _ _ (by decide +kernel) ?_
  show _ ∧ (_)
  refine ⟨((((o_r0_0).mono hn2).mono hm5).mono hm7), ?_⟩
  show G Γ m_Ac_save (d + 1) (0, 0) Q 45 [.ref r0, .ref r1, .int x2] [.int ((xI μ7 r0 3) + (w 1)), .int (w 40), .ref r0] μ7
  refine g_minI (i := 33) lm_0_33 (Nat.le_of_ble_eq_true rfl) (by decide +kernel) ?_
  show G Γ m_Ac_save (d + 1) (0, 0) Q 48 [.ref r0, .ref r1, .int x2] [.int (jmin (w 40) ((xI μ7 r0 3) + (w 1))), .ref r0] μ7
  refine run_ok (pc' := 51) [(.putfield 30, 0, 3, 0)] _ _ _ _ (by decide +kernel) ?_
  show _ ∧ (_)
  refine ⟨((((o_r0_0).mono hn2).mono hm5).mono hm7), ?_⟩
  show G Γ m_Ac_save (d + 1) (0, 0) Q 51 [.ref r0, .ref r1, .int x2] [] (sI μ7 r0 3 (jmin (w 40) ((xI μ7 r0 3) + (w 1))))
  obtain ⟨μ8, em8⟩ : ∃ m : XM, m = sI μ7 r0 3 (jmin (w 40) ((xI μ7 r0 3) + (w 1))) := ⟨_, rfl⟩
  replace h := h μ8 em8
  have hm8 : xN μ7 ≤ xN μ8 := by rw [em8]; exact Nat.le_refl _
  rw [← em8]
  exact g_retv (by decide +kernel) rfl h
/-! FrostBox$Acts giveBack(LFrostBox$Pile;)I -/
set_option maxRecDepth 100000 in
theorem B_Ac_giveBack_0 {Γ : XG} {d : Nat} {Q : Option Value → XM → Prop} {r0 r1 r0_0 : Nat} {μ : XM} (o_r0_0 : ob μ r0 0) (e_r0_0 : xR μ r0 0 = some r0_0) (o_r1_6 : ob μ r1 6) (h : ¬ (w 40) = 0 ∧ ∀ μ2, μ2 = sI μ r0 2 ((((xI μ r0 2) + (w 40)) - (w 1)) - (((xI μ r0 2) + (w 40)) - (w 1)) / (w 40) * (w 40)) → ∀ μ3, μ3 = sI μ2 r0 3 ((xI μ2 r0 3) - (w 1)) → inb μ3 7 r0_0 (xI μ3 r0 2) ∧ ∃ a4, xR μ3 r0_0 (xI μ3 r0 2).toNatClampNeg = some a4 ∧ Call Γ m_Pi_copyFrom d [.ref r1, .ref a4] μ3 (KV (fun μ5 => ∃ a6, xR μ5 r0 1 = some a6 ∧ inb μ5 0 a6 (xI μ5 r0 2) ∧ Q (some (.int (xI μ5 a6 (xI μ5 r0 2).toNatClampNeg))) μ5))) : G Γ m_Ac_giveBack (d + 1) (0, 0) Q 0 [.ref r0, .ref r1] [] μ := by
  obtain ⟨nz1, h⟩ := h
  refine run_ok (pc' := 16) [(.aload_n 0, 0, 0, 0), (.aload_n 0, 0, 0, 0), (.getfield 22, 0, 2, 0), (.bipush 40, 0, 0, 0), (.iadd, 0, 0, 0), (.iconst 1, 0, 0, 0), (.isub, 0, 0, 0), (.bipush 40, 0, 0, 0), (.irem, 0, 0, 0), (.putfield 22, 0, 2, 0)] _ _ _ _ (by decide +kernel) ?_
  show _ ∧ (_ ∧ (_ ∧ (_)))
  refine ⟨o_r0_0, nz1, o_r0_0, ?_⟩
  show G Γ m_Ac_giveBack (d + 1) (0, 0) Q 16 [.ref r0, .ref r1] [] (sI μ r0 2 ((((xI μ r0 2) + (w 40)) - (w 1)) - (((xI μ r0 2) + (w 40)) - (w 1)) / (w 40) * (w 40)))
  obtain ⟨μ2, em2⟩ : ∃ m : XM, m = sI μ r0 2 ((((xI μ r0 2) + (w 40)) - (w 1)) - (((xI μ r0 2) + (w 40)) - (w 1)) / (w 40) * (w 40)) := ⟨_, rfl⟩
  replace h := h μ2 em2
  have hm2 : xN μ ≤ xN μ2 := by rw [em2]; exact Nat.le_refl _
  rw [← em2]
  refine run_ok (pc' := 26) [(.aload_n 0, 0, 0, 0), (.dup, 0, 0, 0), (.getfield 30, 0, 3, 0), (.iconst 1, 0, 0, 0), (.isub, 0, 0, 0), (.putfield 30, 0, 3, 0)] _ _ _ _ (by decide +kernel) ?_
  show _ ∧ (_ ∧ (_))
  refine ⟨((o_r0_0).mono hm2), ((o_r0_0).mono hm2), ?_⟩
  show G Γ m_Ac_giveBack (d + 1) (0, 0) Q 26 [.ref r0, .ref r1] [] (sI μ2 r0 3 ((xI μ2 r0 3) - (w 1)))
  obtain ⟨μ3, em3⟩ : ∃ m : XM, m = sI μ2 r0 3 ((xI μ2 r0 3) - (w 1)) := ⟨_, rfl⟩
  replace h := h μ3 em3
  have hm3 : xN μ2 ≤ xN μ3 := by rw [em3]; exact Nat.le_refl _
  rw [← em3]
  obtain ⟨ib4, h⟩ := h
  obtain ⟨a4, ea4, h⟩ := h
  refine run_ok (pc' := 36) [(.aload_n 1, 0, 0, 0), (.aload_n 0, 0, 0, 0), (.getfield 11, 0, 0, 2), (.aload_n 0, 0, 0, 0), (.getfield 22, 0, 2, 0), (.aaload, 7, 0, 0)] _ _ _ _ (by decide +kernel) ?_
  show _ ∧ (∃ _, _ ∧ (_ ∧ (_ ∧ (∃ _, _ ∧ (_)))))
  refine ⟨(((o_r0_0).mono hm2).mono hm3), r0_0, (by rw [em3]; exact (by rw [em2]; exact e_r0_0)), (((o_r0_0).mono hm2).mono hm3), ib4, a4, ea4, ?_⟩
  show G Γ m_Ac_giveBack (d + 1) (0, 0) Q 36 [.ref r0, .ref r1] [.ref a4, .ref r1] μ3
  refine g_invV (M' := m_Pi_copyFrom) (b1 := 0) (b2 := 0) (As := [.ref a4]) (a := r1) (st := []) lk_0_26 (by decide +kernel) rfl (dk_Pi_copyFrom d) (Nat.le_of_ble_eq_true rfl) (Or.inl ⟨6, (((o_r1_6).mono hm2).mono hm3), rfl⟩) h ?_
  rintro _ μ5 ⟨rfl, h⟩ hn5
  show G Γ m_Ac_giveBack (d + 1) (0, 0) Q 39 [.ref r0, .ref r1] [] μ5
  obtain ⟨a6, ea6, h⟩ := h
  obtain ⟨ib7, h⟩ := h
  refine run_ok (pc' := 48) [(.aload_n 0, 0, 0, 0), (.getfield 17, 0, 1, 2), (.aload_n 0, 0, 0, 0), (.getfield 22, 0, 2, 0), (.iaload, 0, 0, 0)] _ _ _ _ (by decide +kernel) ?_
  show _ ∧ (∃ _, _ ∧ (_ ∧ (_ ∧ (_))))
  refine ⟨((((o_r0_0).mono hm2).mono hm3).mono hn5), a6, ea6, ((((o_r0_0).mono hm2).mono hm3).mono hn5), ib7, ?_⟩
  show G Γ m_Ac_giveBack (d + 1) (0, 0) Q 48 [.ref r0, .ref r1] [.int (xI μ5 a6 (xI μ5 r0 2).toNatClampNeg)] μ5
  exact g_reti (by decide +kernel) rfl h
