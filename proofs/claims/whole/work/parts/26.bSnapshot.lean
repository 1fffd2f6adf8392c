/-! FrostBox$Snapshot keepOf(LFrostBox$Pile;LFrostBox$Meals;)V -/
set_option maxRecDepth 100000 in
theorem lk_8_27 : LkV 8 27 m_Me_copyFrom 1 := ⟨lc_Me_copyFrom, lwG_in (List.mem_of_getElem? (i := 856) rfl) rfl, lwG_in (List.mem_of_getElem? (i := 857) rfl) rfl, lwG_in (List.mem_of_getElem? (i := 858) rfl) rfl⟩
set_option maxRecDepth 100000 in
theorem lk_8_23 : LkV 8 23 m_Pi_copyFrom 1 := ⟨lc_Pi_copyFrom, lwG_in (List.mem_of_getElem? (i := 855) rfl) rfl, lwG_in (List.mem_of_getElem? (i := 658) rfl) rfl, lwG_in (List.mem_of_getElem? (i := 659) rfl) rfl⟩
set_option maxRecDepth 100000 in
theorem B_Sn_keepOf_0 {Γ : XG} {d : Nat} {Q : Option Value → XM → Prop} {r0 r1 r2 r0_0 : Nat} {μ : XM} (o_r0_8 : ob μ r0 8) (e_r0_0 : xR μ r0 0 = some r0_0) (o_r0_0_6 : ob μ r0_0 6) (h : Call Γ m_Pi_copyFrom d [.ref r0_0, .ref r1] μ (KV (fun μ1 => ∃ a2, xR μ1 r0 1 = some a2 ∧ ob μ1 a2 4 ∧ Call Γ m_Me_copyFrom d [.ref a2, .ref r2] μ1 (KV (fun μ3 => ∀ μ4, μ4 = sI μ3 r0 2 (w 1) → Q none μ4))))) : G Γ m_Sn_keepOf (d + 1) (0, 0) Q 0 [.ref r0, .ref r1, .ref r2] [] μ := by
  refine run_ok (pc' := 5) [(.aload_n 0, 0, 0, 0), (.getfield 10, 8, 0, 2), (.aload_n 1, 0, 0, 0)] _ _ _ _ (by decide +kernel) ?_
  show _ ∧ (∃ _, _ ∧ (_))
  refine ⟨o_r0_8, r0_0, e_r0_0, ?_⟩
  show G Γ m_Sn_keepOf (d + 1) (0, 0) Q 5 [.ref r0, .ref r1, .ref r2] [.ref r1, .ref r0_0] μ
  refine g_invV (M' := m_Pi_copyFrom) (b1 := 0) (b2 := 0) (As := [.ref r1]) (a := r0_0) (st := []) lk_8_23 (by decide +kernel) rfl (dk_Pi_copyFrom d) (Nat.le_of_ble_eq_true rfl) (Or.inl ⟨6, o_r0_0_6, rfl⟩) h ?_
  rintro _ μ1 ⟨rfl, h⟩ hn1
  show G Γ m_Sn_keepOf (d + 1) (0, 0) Q 8 [.ref r0, .ref r1, .ref r2] [] μ1
  obtain ⟨a2, ea2, h⟩ := h
  refine run_ok (pc' := 13) [(.aload_n 0, 0, 0, 0), (.getfield 19, 8, 1, 2), (.aload_n 2, 0, 0, 0)] _ _ _ _ (by decide +kernel) ?_
  show _ ∧ (∃ _, _ ∧ (_))
  refine ⟨((o_r0_8).mono hn1), a2, ea2, ?_⟩
  show G Γ m_Sn_keepOf (d + 1) (0, 0) Q 13 [.ref r0, .ref r1, .ref r2] [.ref r2, .ref a2] μ1
  obtain ⟨o_a2_4, h⟩ := h
  refine g_invV (M' := m_Me_copyFrom) (b1 := 0) (b2 := 0) (As := [.ref r2]) (a := a2) (st := []) lk_8_27 (by decide +kernel) rfl (dk_Me_copyFrom d) (Nat.le_of_ble_eq_true rfl) (Or.inl ⟨4, o_a2_4, rfl⟩) h ?_
  rintro _ μ3 ⟨rfl, h⟩ hn3
  show G Γ m_Sn_keepOf (d + 1) (0, 0) Q 16 [.ref r0, .ref r1, .ref r2] [] μ3
  refine run_ok (pc' := 21) [(.aload_n 0, 0, 0, 0), (.iconst 1, 0, 0, 0), (.putfield 30, 8, 2, 3)] _ _ _ _ (by decide +kernel) ?_
  show _ ∧ (_ ∧ (_))
  refine ⟨(((o_r0_8).mono hn1).mono hn3), Or.inr rfl, ?_⟩
  show G Γ m_Sn_keepOf (d + 1) (0, 0) Q 21 [.ref r0, .ref r1, .ref r2] [] (sI μ3 r0 2 (w 1))
  obtain ⟨μ4, em4⟩ : ∃ m : XM, m = sI μ3 r0 2 (w 1) := ⟨_, rfl⟩
  replace h := h μ4 em4
  have hm4 : xN μ3 ≤ xN μ4 := by rw [em4]; exact Nat.le_refl _
  rw [← em4]
  exact g_retv (by decide +kernel) rfl h
/-! FrostBox$Snapshot giveBack(LFrostBox$Pile;LFrostBox$Meals;)V -/
set_option maxRecDepth 100000 in
theorem B_Sn_giveBack_0 {Γ : XG} {d : Nat} {Q : Option Value → XM → Prop} {r0 r1 r2 r0_0 : Nat} {μ : XM} (o_r0_8 : ob μ r0 8) (e_r0_0 : xR μ r0 0 = some r0_0) (o_r1_6 : ob μ r1 6) (o_r2_4 : ob μ r2 4) (h : Call Γ m_Pi_copyFrom d [.ref r1, .ref r0_0] μ (KV (fun μ1 => ∃ a2, xR μ1 r0 1 = some a2 ∧ Call Γ m_Me_copyFrom d [.ref r2, .ref a2] μ1 (KV (fun μ3 => Q none μ3))))) : G Γ m_Sn_giveBack (d + 1) (0, 0) Q 0 [.ref r0, .ref r1, .ref r2] [] μ := by
  refine run_ok (pc' := 5) [(.aload_n 1, 0, 0, 0), (.aload_n 0, 0, 0, 0), (.getfield 10, 8, 0, 2)] _ _ _ _ (by decide +kernel) ?_
  show _ ∧ (∃ _, _ ∧ (_))
  refine ⟨o_r0_8, r0_0, e_r0_0, ?_⟩
  show G Γ m_Sn_giveBack (d + 1) (0, 0) Q 5 [.ref r0, .ref r1, .ref r2] [.ref r0_0, .ref r1] μ
  refine g_invV (M' := m_Pi_copyFrom) (b1 := 0) (b2 := 0) (As := [.ref r0_0]) (a := r1) (st := []) lk_8_23 (by decide +kernel) rfl (dk_Pi_copyFrom d) (Nat.le_of_ble_eq_true rfl) (Or.inl ⟨6, o_r1_6, rfl⟩) h ?_
  rintro _ μ1 ⟨rfl, h⟩ hn1
  show G Γ m_Sn_giveBack (d + 1) (0, 0) Q 8 [.ref r0, .ref r1, .ref r2] [] μ1
  obtain ⟨a2, ea2, h⟩ := h
  refine run_ok (pc' := 13) [(.aload_n 2, 0, 0, 0), (.aload_n 0, 0, 0, 0), (.getfield 19, 8, 1, 2)] _ _ _ _ (by decide +kernel) ?_
  show _ ∧ (∃ _, _ ∧ (_))
  refine ⟨((o_r0_8).mono hn1), a2, ea2, ?_⟩
  show G Γ m_Sn_giveBack (d + 1) (0, 0) Q 13 [.ref r0, .ref r1, .ref r2] [.ref a2, .ref r2] μ1
  refine g_invV (M' := m_Me_copyFrom) (b1 := 0) (b2 := 0) (As := [.ref a2]) (a := r2) (st := []) lk_8_27 (by decide +kernel) rfl (dk_Me_copyFrom d) (Nat.le_of_ble_eq_true rfl) (Or.inl ⟨4, ((o_r2_4).mono hn1), rfl⟩) h ?_
  rintro _ μ3 ⟨rfl, h⟩ hn3
  show G Γ m_Sn_giveBack (d + 1) (0, 0) Q 16 [.ref r0, .ref r1, .ref r2] [] μ3
  exact g_retv (by decide +kernel) rfl h
