/-! FrostBox feed(IIIII)I -/
set_option maxRecDepth 100000 in
theorem lk_10_109 : LkV 10 109 m_Ta_append 1 := ⟨lc_Ta_append, lwG_in (List.mem_of_getElem? (i := 459) rfl) rfl, lwG_in (List.mem_of_getElem? (i := 460) rfl) rfl, lwG_in (List.mem_of_getElem? (i := 461) rfl) rfl⟩
set_option maxRecDepth 100000 in
theorem lk_10_102 : LkS 10 102 m_Ta_bytesIn 1 := ⟨lc_Ta_bytesIn, lwG_in (List.mem_of_getElem? (i := 456) rfl) rfl, lwG_in (List.mem_of_getElem? (i := 457) rfl) rfl⟩
set_option maxRecDepth 100000 in
theorem B_FB_feed_0 {Γ : XG} {d : Nat} {Q : Option Value → XM → Prop} {r0 : Nat} {x1 x2 x3 x4 x5 : Int32} {μ : XM} (o_r0_10 : ob μ r0 10) (h : Call Γ m_Ta_bytesIn d [.int x1] μ (KI (fun v1 μ1 => Call Γ m_Ta_bytesIn d [.int x2] μ1 (KI (fun v2 μ2 => Call Γ m_Ta_bytesIn d [.int x3] μ2 (KI (fun v3 μ3 => Call Γ m_Ta_bytesIn d [.int x4] μ3 (KI (fun v4 μ4 => Call Γ m_Ta_bytesIn d [.int x5] μ4 (KI (fun v5 μ5 => ∃ a6, xR μ5 r0 0 = some a6 ∧ ob μ5 a6 9 ∧ ((w 240 < (xI μ5 a6 1) + ((((v1 + v2) + v3) + v4) + v5) → Q (some (.int (w (-1)))) μ5) ∧ (¬ w 240 < (xI μ5 a6 1) + ((((v1 + v2) + v3) + v4) + v5) → Call Γ m_Ta_append d [.ref a6, .int x1] μ5 (KV (fun μ7 => xR μ7 r0 0 = some a6 ∧ Call Γ m_Ta_append d [.ref a6, .int x2] μ7 (KV (fun μ9 => xR μ9 r0 0 = some a6 ∧ Call Γ m_Ta_append d [.ref a6, .int x3] μ9 (KV (fun μ11 => xR μ11 r0 0 = some a6 ∧ Call Γ m_Ta_append d [.ref a6, .int x4] μ11 (KV (fun μ13 => xR μ13 r0 0 = some a6 ∧ Call Γ m_Ta_append d [.ref a6, .int x5] μ13 (KV (fun μ15 => xR μ15 r0 0 = some a6 ∧ Q (some (.int (xI μ15 a6 1))) μ15))))))))))))))))))))))) : G Γ m_FB_feed (d + 1) (0, 0) Q 0 [.ref r0, .int x1, .int x2, .int x3, .int x4, .int x5] [] μ := by
  refine run_ok (pc' := 1) [(.iload_n 1, 0, 0, 0)] _ _ _ _ (by decide +kernel) ?_
  show G Γ m_FB_feed (d + 1) (0, 0) Q 1 [.ref r0, .int x1, .int x2, .int x3, .int x4, .int x5] [.int x1] μ
  refine g_invS (M' := m_Ta_bytesIn) (b1 := 0) (b2 := 0) (As := [.int x1]) (st := []) lk_10_102 (by decide +kernel) rfl (dk_Ta_bytesIn d) (Nat.le_of_ble_eq_true rfl) h ?_
  rintro _ μ1 ⟨v1, rfl, h⟩ hn1
  show G Γ m_FB_feed (d + 1) (0, 0) Q 4 [.ref r0, .int x1, .int x2, .int x3, .int x4, .int x5] [.int v1] μ1
  refine run_ok (pc' := 5) [(.iload_n 2, 0, 0, 0)] _ _ _ _ (by decide +kernel) ?_
  show G Γ m_FB_feed (d + 1) (0, 0) Q 5 [.ref r0, .int x1, .int x2, .int x3, .int x4, .int x5] [.int x2, .int v1] μ1
  refine g_invS (M' := m_Ta_bytesIn) (b1 := 0) (b2 := 0) (As := [.int x2]) (st := [.int v1]) lk_10_102 (by decide +kernel) rfl (dk_Ta_bytesIn d) (Nat.le_of_ble_eq_true rfl) h ?_
  rintro _ μ2 ⟨v2, rfl, h⟩ hn2
  show G Γ m_FB_feed (d + 1) (0, 0) Q 8 [.ref r0, .int x1, .int x2, .int x3, .int x4, .int x5] [.int v2, .int v1] μ2
  refine run_ok (pc' := 10) [(.iadd, 0, 0, 0), (.iload_n 3, 0, 0, 0)] _ _ _ _ (by decide +kernel) ?_
  show G Γ m_FB_feed (d + 1) (0, 0) Q 10 [.ref r0, .int x1, .int x2, .int x3, .int x4, .int x5] [.int x3, .int (v1 + v2)] μ2
  refine g_invS (M' := m_Ta_bytesIn) (b1 := 0) (b2 := 0) (As := [.int x3]) (st := [.int (v1 + v2)]) lk_10_102 (by decide +kernel) rfl (dk_Ta_bytesIn d) (Nat.le_of_ble_eq_true rfl) h ?_
  rintro _ μ3 ⟨v3, rfl, h⟩ hn3
  show G Γ m_FB_feed (d + 1) (0, 0) Q 13 [.ref r0, .int x1, .int x2, .int x3, .int x4, .int x5] [.int v3, .int (v1 + v2)] μ3
  refine run_ok (pc' := 16) [(.iadd, 0, 0, 0), (.iload 4, 0, 0, 0)] _ _ _ _ (by decide +kernel) ?_
  show G Γ m_FB_feed (d + 1) (0, 0) Q 16 [.ref r0, .int x1, .int x2, .int x3, .int x4, .int x5] [.int x4, .int ((v1 + v2) + v3)] μ3
  refine g_invS (M' := m_Ta_bytesIn) (b1 := 0) (b2 := 0) (As := [.int x4]) (st := [.int ((v1 + v2) + v3)]) lk_10_102 (by decide +kernel) rfl (dk_Ta_bytesIn d) (Nat.le_of_ble_eq_true rfl) h ?_
  rintro _ μ4 ⟨v4, rfl, h⟩ hn4
  show G Γ m_FB_feed (d + 1) (0, 0) Q 19 [.ref r0, .int x1, .int x2, .int x3, .int x4, .int x5] [.int v4, .int ((v1 + v2) + v3)] μ4
  refine run_ok (pc' := 22) [(.iadd, 0, 0, 0), (.iload 5, 0, 0, 0)] _ _ _ _ (by decide +kernel) ?_
  show G Γ m_FB_feed (d + 1) (0, 0) Q 22 [.ref r0, .int x1, .int x2, .int x3, .int x4, .int x5] [.int x5, .int (((v1 + v2) + v3) + v4)] μ4
  refine g_invS (M' := m_Ta_bytesIn) (b1 := 0) (b2 := 0) (As := [.int x5]) (st := [.int (((v1 + v2) + v3) + v4)]) lk_10_102 (by decide +kernel) rfl (dk_Ta_bytesIn d) (Nat.le_of_ble_eq_true rfl) h ?_
  rintro _ μ5 ⟨v5, rfl, h⟩ hn5
  show G Γ m_FB_feed (d + 1) (0, 0) Q 25 [.ref r0, .int x1, .int x2, .int x3, .int x4, .int x5] [.int v5, .int (((v1 + v2) + v3) + v4)] μ5
  obtain ⟨a6, ea6, h⟩ := h
  obtain ⟨o_a6_9, h⟩ := h
  refine run_ok (pc' := 41) [(.iadd, 0, 0, 0), (.istore 6, 0, 0, 0), (.aload_n 0, 0, 0, 0), (.getfield 10, 10, 0, 2), (.getfield 106, 9, 1, 0), (.iload 6, 0, 0, 0), (.iadd, 0, 0, 0), (.sipush 240, 0, 0, 0)] _ _ _ _ (by decide +kernel) ?_
  show _ ∧ (∃ _, _ ∧ (_ ∧ (_)))
  refine ⟨((((((o_r0_10).mono hn1).mono hn2).mono hn3).mono hn4).mono hn5), a6, ea6, o_a6_9, ?_⟩
  show G Γ m_FB_feed (d + 1) (0, 0) Q 41 [.ref r0, .int x1, .int x2, .int x3, .int x4, .int x5, .int ((((v1 + v2) + v3) + v4) + v5)] [.int (w 240), .int ((xI μ5 a6 1) + ((((v1 + v2) + v3) + v4) + v5))] μ5
  refine g_icmp_le (pc' := 46) (off := 5) (by decide) (by decide +kernel) (fun hc => ?_) (fun hc => ?_)
  · replace h := h.2 hc
    show G Γ m_FB_feed (d + 1) (0, 0) Q 46 [.ref r0, .int x1, .int x2, .int x3, .int x4, .int x5, .int ((((v1 + v2) + v3) + v4) + v5)] [] μ5
    refine run_ok (pc' := 51) [(.aload_n 0, 0, 0, 0), (.getfield 10, 10, 0, 2), (.iload_n 1, 0, 0, 0)] _ _ _ _ (by decide +kernel) ?_
    show _ ∧ (∃ _, _ ∧ (_))
    refine ⟨((((((o_r0_10).mono hn1).mono hn2).mono hn3).mono hn4).mono hn5), a6, ea6, ?_⟩
    show G Γ m_FB_feed (d + 1) (0, 0) Q 51 [.ref r0, .int x1, .int x2, .int x3, .int x4, .int x5, .int ((((v1 + v2) + v3) + v4) + v5)] [.int x1, .ref a6] μ5
    refine g_invV (M' := m_Ta_append) (b1 := 0) (b2 := 0) (As := [.int x1]) (a := a6) (st := []) lk_10_109 (by decide +kernel) rfl (dk_Ta_append d) (Nat.le_of_ble_eq_true rfl) (Or.inl ⟨9, o_a6_9, rfl⟩) h ?_
    rintro _ μ7 ⟨rfl, h⟩ hn7
    show G Γ m_FB_feed (d + 1) (0, 0) Q 54 [.ref r0, .int x1, .int x2, .int x3, .int x4, .int x5, .int ((((v1 + v2) + v3) + v4) + v5)] [] μ7
    obtain ⟨ea8, h⟩ := h
    refine run_ok (pc' := 59) [(.aload_n 0, 0, 0, 0), (.getfield 10, 10, 0, 2), (.iload_n 2, 0, 0, 0)] _ _ _ _ (by decide +kernel) ?_
    show _ ∧ (∃ _, _ ∧ (_))
    refine ⟨(((((((o_r0_10).mono hn1).mono hn2).mono hn3).mono hn4).mono hn5).mono hn7), a6, ea8, ?_⟩
    show G Γ m_FB_feed (d + 1) (0, 0) Q 59 [.ref r0, .int x1, .int x2, .int x3, .int x4, .int x5, .int ((((v1 + v2) + v3) + v4) + v5)] [.int x2, .ref a6] μ7
    refine g_invV (M' := m_Ta_append) (b1 := 0) (b2 := 0) (As := [.int x2]) (a := a6) (st := []) lk_10_109 (by decide +kernel) rfl (dk_Ta_append d) (Nat.le_of_ble_eq_true rfl) (Or.inl ⟨9, ((o_a6_9).mono hn7), rfl⟩) h ?_
    rintro _ μ9 ⟨rfl, h⟩ hn9
    show G Γ m_FB_feed (d + 1) (0, 0) Q 62 [.ref r0, .int x1, .int x2, .int x3, .int x4, .int x5, .int ((((v1 + v2) + v3) + v4) + v5)] [] μ9
    obtain ⟨ea10, h⟩ := h
    refine run_ok (pc' := 67) [(.aload_n 0, 0, 0, 0), (.getfield 10, 10, 0, 2), (.iload_n 3, 0, 0, 0)] _ _ _ _ (by decide +kernel) ?_
    show _ ∧ (∃ _, _ ∧ (_))
    refine ⟨((((((((o_r0_10).mono hn1).mono hn2).mono hn3).mono hn4).mono hn5).mono hn7).mono hn9), a6, ea10, ?_⟩
    show G Γ m_FB_feed (d + 1) (0, 0) Q 67 [.ref r0, .int x1, .int x2, .int x3, .int x4, .int x5, .int ((((v1 + v2) + v3) + v4) + v5)] [.int x3, .ref a6] μ9
    refine g_invV (M' := m_Ta_append) (b1 := 0) (b2 := 0) (As := [.int x3]) (a := a6) (st := []) lk_10_109 (by decide +kernel) rfl (dk_Ta_append d) (Nat.le_of_ble_eq_true rfl) (Or.inl ⟨9, (((o_a6_9).mono hn7).mono hn9), rfl⟩) h ?_
    rintro _ μ11 ⟨rfl, h⟩ hn11
    show G Γ m_FB_feed (d + 1) (0, 0) Q 70 [.ref r0, .int x1, .int x2, .int x3, .int x4, .int x5, .int ((((v1 + v2) + v3) + v4) + v5)] [] μ11
    obtain ⟨ea12, h⟩ := h
    refine run_ok (pc' := 76) [(.aload_n 0, 0, 0, 0), (.getfield 10, 10, 0, 2), (.iload 4, 0, 0, 0)] _ _ _ _ (by decide +kernel) ?_
    show _ ∧ (∃ _, _ ∧ (_))
    refine ⟨(((((((((o_r0_10).mono hn1).mono hn2).mono hn3).mono hn4).mono hn5).mono hn7).mono hn9).mono hn11), a6, ea12, ?_⟩
    show G Γ m_FB_feed (d + 1) (0, 0) Q 76 [.ref r0, .int x1, .int x2, .int x3, .int x4, .int x5, .int ((((v1 + v2) + v3) + v4) + v5)] [.int x4, .ref a6] μ11
    refine g_invV (M' := m_Ta_append) (b1 := 0) (b2 := 0) (As := [.int x4]) (a := a6) (st := []) lk_10_109 (by decide +kernel) rfl (dk_Ta_append d) (Nat.le_of_ble_eq_true rfl) (Or.inl ⟨9, ((((o_a6_9).mono hn7).mono hn9).mono hn11), rfl⟩) h ?_
    rintro _ μ13 ⟨rfl, h⟩ hn13
    show G Γ m_FB_feed (d + 1) (0, 0) Q 79 [.ref r0, .int x1, .int x2, .int x3, .int x4, .int x5, .int ((((v1 + v2) + v3) + v4) + v5)] [] μ13
    obtain ⟨ea14, h⟩ := h
    refine run_ok (pc' := 85) [(.aload_n 0, 0, 0, 0), (.getfield 10, 10, 0, 2), (.iload 5, 0, 0, 0)] _ _ _ _ (by decide +kernel) ?_
    show _ ∧ (∃ _, _ ∧ (_))
    refine ⟨((((((((((o_r0_10).mono hn1).mono hn2).mono hn3).mono hn4).mono hn5).mono hn7).mono hn9).mono hn11).mono hn13), a6, ea14, ?_⟩
    show G Γ m_FB_feed (d + 1) (0, 0) Q 85 [.ref r0, .int x1, .int x2, .int x3, .int x4, .int x5, .int ((((v1 + v2) + v3) + v4) + v5)] [.int x5, .ref a6] μ13
    refine g_invV (M' := m_Ta_append) (b1 := 0) (b2 := 0) (As := [.int x5]) (a := a6) (st := []) lk_10_109 (by decide +kernel) rfl (dk_Ta_append d) (Nat.le_of_ble_eq_true rfl) (Or.inl ⟨9, (((((o_a6_9).mono hn7).mono hn9).mono hn11).mono hn13), rfl⟩) h ?_
    rintro _ μ15 ⟨rfl, h⟩ hn15
    show G Γ m_FB_feed (d + 1) (0, 0) Q 88 [.ref r0, .int x1, .int x2, .int x3, .int x4, .int x5, .int ((((v1 + v2) + v3) + v4) + v5)] [] μ15
    obtain ⟨ea16, h⟩ := h
    refine run_ok (pc' := 95) [(.aload_n 0, 0, 0, 0), (.getfield 10, 10, 0, 2), (.getfield 106, 9, 1, 0)] _ _ _ _ (by decide +kernel) ?_
    show _ ∧ (∃ _, _ ∧ (_ ∧ (_)))
    refine ⟨(((((((((((o_r0_10).mono hn1).mono hn2).mono hn3).mono hn4).mono hn5).mono hn7).mono hn9).mono hn11).mono hn13).mono hn15), a6, ea16, ((((((o_a6_9).mono hn7).mono hn9).mono hn11).mono hn13).mono hn15), ?_⟩
    show G Γ m_FB_feed (d + 1) (0, 0) Q 95 [.ref r0, .int x1, .int x2, .int x3, .int x4, .int x5, .int ((((v1 + v2) + v3) + v4) + v5)] [.int (xI μ15 a6 1)] μ15
    exact g_reti (by decide +kernel) rfl h
  · replace h := h.1 hc
    show G Γ m_FB_feed (d + 1) (0, 0) Q 44 [.ref r0, .int x1, .int x2, .int x3, .int x4, .int x5, .int ((((v1 + v2) + v3) + v4) + v5)] [] μ5
    refine run_ok (pc' := 45) [(.iconst (-1), 0, 0, 0)] _ _ _ _ (by decide +kernel) ?_
    show G Γ m_FB_feed (d + 1) (0, 0) Q 45 [.ref r0, .int x1, .int x2, .int x3, .int x4, .int x5, .int ((((v1 + v2) + v3) + v4) + v5)] [.int (w (-1))] μ5
    exact g_reti (by decide +kernel) rfl h
/-! FrostBox end(I)Z -/
set_option maxRecDepth 100000 in
theorem B_FB_end_0 {Γ : XG} {d : Nat} {Q : Option Value → XM → Prop} {r0 r0_0 : Nat} {x1 : Int32} {μ : XM} (o_r0_10 : ob μ r0 10) (e_r0_0 : xR μ r0 0 = some r0_0) (o_r0_0_9 : ob μ r0_0 9) (h : ((x1 < w 0 → Q (some (.int (w 0))) μ) ∧ (¬ x1 < w 0 → ((xI μ r0_0 1 < x1 → Q (some (.int (w 0))) μ) ∧ (¬ xI μ r0_0 1 < x1 → ∀ μ1, μ1 = sI μ r0_0 1 x1 → Q (some (.int (w 1))) μ1))))) : G Γ m_FB_end (d + 1) (0, 0) Q 0 [.ref r0, .int x1] [] μ := by
  refine run_ok (pc' := 1) [(.iload_n 1, 0, 0, 0)] _ _ _ _ (by decide +kernel) ?_
  show G Γ m_FB_end (d + 1) (0, 0) Q 1 [.ref r0, .int x1] [.int x1] μ
  refine g_ifz_lt (pc' := 15) (off := 14) (by decide) (by decide +kernel) (fun hc => ?_) (fun hc => ?_)
  · replace h := h.1 hc
    show G Γ m_FB_end (d + 1) (0, 0) Q 15 [.ref r0, .int x1] [] μ
    refine run_ok (pc' := 16) [(.iconst 0, 0, 0, 0)] _ _ _ _ (by decide +kernel) ?_
    show G Γ m_FB_end (d + 1) (0, 0) Q 16 [.ref r0, .int x1] [.int (w 0)] μ
    exact g_retz (by decide +kernel) rfl (Or.inl rfl) h
  · replace h := h.2 hc
    show G Γ m_FB_end (d + 1) (0, 0) Q 4 [.ref r0, .int x1] [] μ
    refine run_ok (pc' := 12) [(.iload_n 1, 0, 0, 0), (.aload_n 0, 0, 0, 0), (.getfield 10, 10, 0, 2), (.getfield 106, 9, 1, 0)] _ _ _ _ (by decide +kernel) ?_
    show _ ∧ (∃ _, _ ∧ (_ ∧ (_)))
    refine ⟨o_r0_10, r0_0, e_r0_0, o_r0_0_9, ?_⟩
    show G Γ m_FB_end (d + 1) (0, 0) Q 12 [.ref r0, .int x1] [.int (xI μ r0_0 1), .int x1] μ
    refine g_icmp_le (pc' := 17) (off := 5) (by decide) (by decide +kernel) (fun hc => ?_) (fun hc => ?_)
    · replace h := h.2 hc
      show G Γ m_FB_end (d + 1) (0, 0) Q 17 [.ref r0, .int x1] [] μ
      refine run_ok (pc' := 25) [(.aload_n 0, 0, 0, 0), (.getfield 10, 10, 0, 2), (.iload_n 1, 0, 0, 0), (.putfield 106, 9, 1, 0)] _ _ _ _ (by decide +kernel) ?_
      show _ ∧ (∃ _, _ ∧ (_ ∧ (_)))
      refine ⟨o_r0_10, r0_0, e_r0_0, o_r0_0_9, ?_⟩
      show G Γ m_FB_end (d + 1) (0, 0) Q 25 [.ref r0, .int x1] [] (sI μ r0_0 1 x1)
      obtain ⟨μ1, em1⟩ : ∃ m : XM, m = sI μ r0_0 1 x1 := ⟨_, rfl⟩
      replace h := h μ1 em1
      have hm1 : xN μ ≤ xN μ1 := by rw [em1]; exact Nat.le_refl _
      rw [← em1]
      refine run_ok (pc' := 26) [(.iconst 1, 0, 0, 0)] _ _ _ _ (by decide +kernel) ?_
      show G Γ m_FB_end (d + 1) (0, 0) Q 26 [.ref r0, .int x1] [.int (w 1)] μ1
      exact g_retz (by decide +kernel) rfl (Or.inr rfl) h
    · replace h := h.1 hc
      show G Γ m_FB_end (d + 1) (0, 0) Q 15 [.ref r0, .int x1] [] μ
      refine run_ok (pc' := 16) [(.iconst 0, 0, 0, 0)] _ _ _ _ (by decide +kernel) ?_
      show G Γ m_FB_end (d + 1) (0, 0) Q 16 [.ref r0, .int x1] [.int (w 0)] μ
      exact g_retz (by decide +kernel) rfl (Or.inl rfl) h
/-! FrostBox fault(I)I -/
set_option maxRecDepth 100000 in
theorem lk_10_113 : LkV 10 113 m_FB_readsAs 1 := ⟨lc_FB_readsAs, lwG_in (List.mem_of_getElem? (i := 471) rfl) rfl, lwG_in (List.mem_of_getElem? (i := 473) rfl) rfl, lwG_in (List.mem_of_getElem? (i := 0) rfl) rfl⟩
set_option maxRecDepth 100000 in
theorem B_FB_fault_0 {Γ : XG} {d : Nat} {Q : Option Value → XM → Prop} {r0 : Nat} {x1 : Int32} {μ : XM} (o_r0_10 : ob μ r0 10) (h : ((x1 < w 0 → Q (some (.int (w (-2)))) μ) ∧ (¬ x1 < w 0 → ((w 2 < x1 → Q (some (.int (w (-2)))) μ) ∧ (¬ w 2 < x1 → Call Γ m_FB_readsAs d [.ref r0, .int x1] μ (KI (fun v1 μ1 => ((v1 = w 0 → ∃ a2, xR μ1 r0 0 = some a2 ∧ ob μ1 a2 9 ∧ Q (some (.int (xI μ1 a2 3))) μ1) ∧ (¬ v1 = w 0 → Q (some (.int (w (-1)))) μ1))))))))) : G Γ m_FB_fault (d + 1) (0, 0) Q 0 [.ref r0, .int x1] [] μ := by
  refine run_ok (pc' := 1) [(.iload_n 1, 0, 0, 0)] _ _ _ _ (by decide +kernel) ?_
  show G Γ m_FB_fault (d + 1) (0, 0) Q 1 [.ref r0, .int x1] [.int x1] μ
  refine g_ifz_lt (pc' := 9) (off := 8) (by decide) (by decide +kernel) (fun hc => ?_) (fun hc => ?_)
  · replace h := h.1 hc
    show G Γ m_FB_fault (d + 1) (0, 0) Q 9 [.ref r0, .int x1] [] μ
    refine run_ok (pc' := 11) [(.bipush (-2), 0, 0, 0)] _ _ _ _ (by decide +kernel) ?_
    show G Γ m_FB_fault (d + 1) (0, 0) Q 11 [.ref r0, .int x1] [.int (w (-2))] μ
    exact g_reti (by decide +kernel) rfl h
  · replace h := h.2 hc
    show G Γ m_FB_fault (d + 1) (0, 0) Q 4 [.ref r0, .int x1] [] μ
    refine run_ok (pc' := 6) [(.iload_n 1, 0, 0, 0), (.iconst 2, 0, 0, 0)] _ _ _ _ (by decide +kernel) ?_
    show G Γ m_FB_fault (d + 1) (0, 0) Q 6 [.ref r0, .int x1] [.int (w 2), .int x1] μ
    refine g_icmp_le (pc' := 12) (off := 6) (by decide) (by decide +kernel) (fun hc => ?_) (fun hc => ?_)
    · replace h := h.2 hc
      show G Γ m_FB_fault (d + 1) (0, 0) Q 12 [.ref r0, .int x1] [] μ
      refine run_ok (pc' := 14) [(.aload_n 0, 0, 0, 0), (.iload_n 1, 0, 0, 0)] _ _ _ _ (by decide +kernel) ?_
      show G Γ m_FB_fault (d + 1) (0, 0) Q 14 [.ref r0, .int x1] [.int x1, .ref r0] μ
      refine g_invV (M' := m_FB_readsAs) (b1 := 0) (b2 := 0) (As := [.int x1]) (a := r0) (st := []) lk_10_113 (by decide +kernel) rfl (dk_FB_readsAs d) (Nat.le_of_ble_eq_true rfl) (Or.inl ⟨10, o_r0_10, rfl⟩) h ?_
      rintro _ μ1 ⟨v1, rfl, h⟩ hn1
      show G Γ m_FB_fault (d + 1) (0, 0) Q 17 [.ref r0, .int x1] [.int v1] μ1
      refine g_ifz_eq (pc' := 24) (off := 7) (by decide) (by decide +kernel) (fun hc => ?_) (fun hc => ?_)
      · replace h := h.1 hc
        show G Γ m_FB_fault (d + 1) (0, 0) Q 24 [.ref r0, .int x1] [] μ1
        obtain ⟨a2, ea2, h⟩ := h
        obtain ⟨o_a2_9, h⟩ := h
        refine run_ok (pc' := 31) [(.aload_n 0, 0, 0, 0), (.getfield 10, 10, 0, 2), (.getfield 117, 9, 3, 0)] _ _ _ _ (by decide +kernel) ?_
        show _ ∧ (∃ _, _ ∧ (_ ∧ (_)))
        refine ⟨((o_r0_10).mono hn1), a2, ea2, o_a2_9, ?_⟩
        show G Γ m_FB_fault (d + 1) (0, 0) Q 31 [.ref r0, .int x1] [.int (xI μ1 a2 3)] μ1
        exact g_reti (by decide +kernel) rfl h
      · replace h := h.2 hc
        show G Γ m_FB_fault (d + 1) (0, 0) Q 20 [.ref r0, .int x1] [] μ1
        refine run_ok (pc' := 31) [(.iconst (-1), 0, 0, 0), (.goto 10, 0, 0, 0)] _ _ _ _ (by decide +kernel) ?_
        show G Γ m_FB_fault (d + 1) (0, 0) Q 31 [.ref r0, .int x1] [.int (w (-1))] μ1
        exact g_reti (by decide +kernel) rfl h
    · replace h := h.1 hc
      show G Γ m_FB_fault (d + 1) (0, 0) Q 9 [.ref r0, .int x1] [] μ
      refine run_ok (pc' := 11) [(.bipush (-2), 0, 0, 0)] _ _ _ _ (by decide +kernel) ?_
      show G Γ m_FB_fault (d + 1) (0, 0) Q 11 [.ref r0, .int x1] [.int (w (-2))] μ
      exact g_reti (by decide +kernel) rfl h
/-! FrostBox text(I)I -/
set_option maxRecDepth 100000 in
theorem lk_10_127 : LkV 10 127 m_FB_tellHouse 0 := ⟨lc_FB_tellHouse, lwG_in (List.mem_of_getElem? (i := 653) rfl) rfl, lwG_in (List.mem_of_getElem? (i := 655) rfl) rfl, lwG_in (List.mem_of_getElem? (i := 18) rfl) rfl⟩
set_option maxRecDepth 100000 in
theorem lk_10_124 : LkV 10 124 m_FB_tellPlan 0 := ⟨lc_FB_tellPlan, lwG_in (List.mem_of_getElem? (i := 649) rfl) rfl, lwG_in (List.mem_of_getElem? (i := 651) rfl) rfl, lwG_in (List.mem_of_getElem? (i := 17) rfl) rfl⟩
set_option maxRecDepth 100000 in
theorem lk_10_120 : LkV 10 120 m_FB_tellLaw 0 := ⟨lc_FB_tellLaw, lwG_in (List.mem_of_getElem? (i := 645) rfl) rfl, lwG_in (List.mem_of_getElem? (i := 647) rfl) rfl, lwG_in (List.mem_of_getElem? (i := 16) rfl) rfl⟩
set_option maxRecDepth 100000 in
theorem B_FB_text_0 {Γ : XG} {d : Nat} {Q : Option Value → XM → Prop} {r0 : Nat} {x1 : Int32} {μ : XM} (o_r0_10 : ob μ r0 10) (h : ((x1 < w 0 → Q (some (.int (w (-1)))) μ) ∧ (¬ x1 < w 0 → ((w 2 < x1 → Q (some (.int (w (-1)))) μ) ∧ (¬ w 2 < x1 → Call Γ m_FB_readsAs d [.ref r0, .int x1] μ (KI (fun v1 μ1 => ((v1 = w 0 → Q (some (.int (w (-1)))) μ1) ∧ (¬ v1 = w 0 → ((x1 = w 1 → Call Γ m_FB_tellLaw d [.ref r0] μ1 (KI (fun v4 μ4 => Q (some (.int v4)) μ4))) ∧ (¬ x1 = w 1 → ((x1 = w 2 → Call Γ m_FB_tellPlan d [.ref r0] μ1 (KI (fun v3 μ3 => Q (some (.int v3)) μ3))) ∧ (¬ x1 = w 2 → Call Γ m_FB_tellHouse d [.ref r0] μ1 (KI (fun v2 μ2 => Q (some (.int v2)) μ2))))))))))))))) : G Γ m_FB_text (d + 1) (0, 0) Q 0 [.ref r0, .int x1] [] μ := by
  refine run_ok (pc' := 1) [(.iload_n 1, 0, 0, 0)] _ _ _ _ (by decide +kernel) ?_
  show G Γ m_FB_text (d + 1) (0, 0) Q 1 [.ref r0, .int x1] [.int x1] μ
  refine g_ifz_lt (pc' := 17) (off := 16) (by decide) (by decide +kernel) (fun hc => ?_) (fun hc => ?_)
  · replace h := h.1 hc
    show G Γ m_FB_text (d + 1) (0, 0) Q 17 [.ref r0, .int x1] [] μ
    refine run_ok (pc' := 18) [(.iconst (-1), 0, 0, 0)] _ _ _ _ (by decide +kernel) ?_
    show G Γ m_FB_text (d + 1) (0, 0) Q 18 [.ref r0, .int x1] [.int (w (-1))] μ
    exact g_reti (by decide +kernel) rfl h
  · replace h := h.2 hc
    show G Γ m_FB_text (d + 1) (0, 0) Q 4 [.ref r0, .int x1] [] μ
    refine run_ok (pc' := 6) [(.iload_n 1, 0, 0, 0), (.iconst 2, 0, 0, 0)] _ _ _ _ (by decide +kernel) ?_
    show G Γ m_FB_text (d + 1) (0, 0) Q 6 [.ref r0, .int x1] [.int (w 2), .int x1] μ
    refine g_icmp_gt (pc' := 17) (off := 11) (by decide) (by decide +kernel) (fun hc => ?_) (fun hc => ?_)
    · replace h := h.1 hc
      show G Γ m_FB_text (d + 1) (0, 0) Q 17 [.ref r0, .int x1] [] μ
      refine run_ok (pc' := 18) [(.iconst (-1), 0, 0, 0)] _ _ _ _ (by decide +kernel) ?_
      show G Γ m_FB_text (d + 1) (0, 0) Q 18 [.ref r0, .int x1] [.int (w (-1))] μ
      exact g_reti (by decide +kernel) rfl h
    · replace h := h.2 hc
      show G Γ m_FB_text (d + 1) (0, 0) Q 9 [.ref r0, .int x1] [] μ
      refine run_ok (pc' := 11) [(.aload_n 0, 0, 0, 0), (.iload_n 1, 0, 0, 0)] _ _ _ _ (by decide +kernel) ?_
      show G Γ m_FB_text (d + 1) (0, 0) Q 11 [.ref r0, .int x1] [.int x1, .ref r0] μ
      refine g_invV (M' := m_FB_readsAs) (b1 := 0) (b2 := 0) (As := [.int x1]) (a := r0) (st := []) lk_10_113 (by decide +kernel) rfl (dk_FB_readsAs d) (Nat.le_of_ble_eq_true rfl) (Or.inl ⟨10, o_r0_10, rfl⟩) h ?_
      rintro _ μ1 ⟨v1, rfl, h⟩ hn1
      show G Γ m_FB_text (d + 1) (0, 0) Q 14 [.ref r0, .int x1] [.int v1] μ1
      refine g_ifz_ne (pc' := 19) (off := 5) (by decide) (by decide +kernel) (fun hc => ?_) (fun hc => ?_)
      · replace h := h.2 hc
        show G Γ m_FB_text (d + 1) (0, 0) Q 19 [.ref r0, .int x1] [] μ1
        refine run_ok (pc' := 21) [(.iload_n 1, 0, 0, 0), (.iconst 1, 0, 0, 0)] _ _ _ _ (by decide +kernel) ?_
        show G Γ m_FB_text (d + 1) (0, 0) Q 21 [.ref r0, .int x1] [.int (w 1), .int x1] μ1
        refine g_icmp_ne (pc' := 29) (off := 8) (by decide) (by decide +kernel) (fun hc => ?_) (fun hc => ?_)
        · replace h := h.2 hc
          show G Γ m_FB_text (d + 1) (0, 0) Q 29 [.ref r0, .int x1] [] μ1
          refine run_ok (pc' := 31) [(.iload_n 1, 0, 0, 0), (.iconst 2, 0, 0, 0)] _ _ _ _ (by decide +kernel) ?_
          show G Γ m_FB_text (d + 1) (0, 0) Q 31 [.ref r0, .int x1] [.int (w 2), .int x1] μ1
          refine g_icmp_ne (pc' := 41) (off := 10) (by decide) (by decide +kernel) (fun hc => ?_) (fun hc => ?_)
          · replace h := h.2 hc
            show G Γ m_FB_text (d + 1) (0, 0) Q 41 [.ref r0, .int x1] [] μ1
            refine run_ok (pc' := 42) [(.aload_n 0, 0, 0, 0)] _ _ _ _ (by decide +kernel) ?_
            show G Γ m_FB_text (d + 1) (0, 0) Q 42 [.ref r0, .int x1] [.ref r0] μ1
            refine g_invV (M' := m_FB_tellHouse) (b1 := 0) (b2 := 0) (As := []) (a := r0) (st := []) lk_10_127 (by decide +kernel) rfl (dk_FB_tellHouse d) (Nat.le_of_ble_eq_true rfl) (Or.inl ⟨10, ((o_r0_10).mono hn1), rfl⟩) h ?_
            rintro _ μ2 ⟨v2, rfl, h⟩ hn2
            show G Γ m_FB_text (d + 1) (0, 0) Q 45 [.ref r0, .int x1] [.int v2] μ2
            exact g_reti (by decide +kernel) rfl h
          · replace h := h.1 hc
            show G Γ m_FB_text (d + 1) (0, 0) Q 34 [.ref r0, .int x1] [] μ1
            refine run_ok (pc' := 35) [(.aload_n 0, 0, 0, 0)] _ _ _ _ (by decide +kernel) ?_
            show G Γ m_FB_text (d + 1) (0, 0) Q 35 [.ref r0, .int x1] [.ref r0] μ1
            refine g_invV (M' := m_FB_tellPlan) (b1 := 0) (b2 := 0) (As := []) (a := r0) (st := []) lk_10_124 (by decide +kernel) rfl (dk_FB_tellPlan d) (Nat.le_of_ble_eq_true rfl) (Or.inl ⟨10, ((o_r0_10).mono hn1), rfl⟩) h ?_
            rintro _ μ3 ⟨v3, rfl, h⟩ hn3
            show G Γ m_FB_text (d + 1) (0, 0) Q 38 [.ref r0, .int x1] [.int v3] μ3
            refine run_ok (pc' := 45) [(.goto 7, 0, 0, 0)] _ _ _ _ (by decide +kernel) ?_
            show G Γ m_FB_text (d + 1) (0, 0) Q 45 [.ref r0, .int x1] [.int v3] μ3
            exact g_reti (by decide +kernel) rfl h
        · replace h := h.1 hc
          show G Γ m_FB_text (d + 1) (0, 0) Q 24 [.ref r0, .int x1] [] μ1
          refine run_ok (pc' := 25) [(.aload_n 0, 0, 0, 0)] _ _ _ _ (by decide +kernel) ?_
          show G Γ m_FB_text (d + 1) (0, 0) Q 25 [.ref r0, .int x1] [.ref r0] μ1
          refine g_invV (M' := m_FB_tellLaw) (b1 := 0) (b2 := 0) (As := []) (a := r0) (st := []) lk_10_120 (by decide +kernel) rfl (dk_FB_tellLaw d) (Nat.le_of_ble_eq_true rfl) (Or.inl ⟨10, ((o_r0_10).mono hn1), rfl⟩) h ?_
          rintro _ μ4 ⟨v4, rfl, h⟩ hn4
          show G Γ m_FB_text (d + 1) (0, 0) Q 28 [.ref r0, .int x1] [.int v4] μ4
          exact g_reti (by decide +kernel) rfl h
      · replace h := h.1 hc
        show G Γ m_FB_text (d + 1) (0, 0) Q 17 [.ref r0, .int x1] [] μ1
        refine run_ok (pc' := 18) [(.iconst (-1), 0, 0, 0)] _ _ _ _ (by decide +kernel) ?_
        show G Γ m_FB_text (d + 1) (0, 0) Q 18 [.ref r0, .int x1] [.int (w (-1))] μ1
        exact g_reti (by decide +kernel) rfl h
/-! FrostBox readsAs(I)Z -/
set_option maxRecDepth 100000 in
theorem lk_10_141 : LkV 10 141 m_Pl_readFrom 1 := ⟨lc_Pl_readFrom, lwG_in (List.mem_of_getElem? (i := 612) rfl) rfl, lwG_in (List.mem_of_getElem? (i := 613) rfl) rfl, lwG_in (List.mem_of_getElem? (i := 614) rfl) rfl⟩
set_option maxRecDepth 100000 in
theorem lk_10_137 : LkV 10 137 m_La_readFrom 1 := ⟨lc_La_readFrom, lwG_in (List.mem_of_getElem? (i := 562) rfl) rfl, lwG_in (List.mem_of_getElem? (i := 563) rfl) rfl, lwG_in (List.mem_of_getElem? (i := 564) rfl) rfl⟩
set_option maxRecDepth 100000 in
theorem lk_10_130 : LkV 10 130 m_Ho_readFrom 1 := ⟨lc_Ho_readFrom, lwG_in (List.mem_of_getElem? (i := 475) rfl) rfl, lwG_in (List.mem_of_getElem? (i := 476) rfl) rfl, lwG_in (List.mem_of_getElem? (i := 477) rfl) rfl⟩
set_option maxRecDepth 100000 in
theorem B_FB_readsAs_0 {Γ : XG} {d : Nat} {Q : Option Value → XM → Prop} {r0 r0_6 r0_0 r0_3 r0_2 : Nat} {x1 : Int32} {μ : XM} (o_r0_10 : ob μ r0 10) (e_r0_6 : xR μ r0 6 = some r0_6) (e_r0_0 : xR μ r0 0 = some r0_0) (e_r0_3 : xR μ r0 3 = some r0_3) (e_r0_2 : xR μ r0 2 = some r0_2) (o_r0_2_1 : ob μ r0_2 1) (h : ((x1 = w 0 → Call Γ m_Ho_readFrom d [.ref r0_2, .ref r0_0] μ (KI (fun v5 μ5 => ((v5 = w 0 ∨ v5 = w 1) ∧ Q (some (.int v5)) μ5)))) ∧ (¬ x1 = w 0 → ((x1 = w 1 → inb μ 5 r0_3 (xI μ r0 4) ∧ ∃ a3, xR μ r0_3 (xI μ r0 4).toNatClampNeg = some a3 ∧ ob μ a3 2 ∧ Call Γ m_La_readFrom d [.ref a3, .ref r0_0] μ (KI (fun v4 μ4 => ((v4 = w 0 ∨ v4 = w 1) ∧ Q (some (.int v4)) μ4)))) ∧ (¬ x1 = w 1 → inb μ 6 r0_6 (xI μ r0 7) ∧ ∃ a1, xR μ r0_6 (xI μ r0 7).toNatClampNeg = some a1 ∧ ob μ a1 7 ∧ Call Γ m_Pl_readFrom d [.ref a1, .ref r0_0] μ (KI (fun v2 μ2 => ((v2 = w 0 ∨ v2 = w 1) ∧ Q (some (.int v2)) μ2)))))))) : G Γ m_FB_readsAs (d + 1) (0, 0) Q 0 [.ref r0, .int x1] [] μ := by
  refine run_ok (pc' := 1) [(.iload_n 1, 0, 0, 0)] _ _ _ _ (by decide +kernel) ?_
  show G Γ m_FB_readsAs (d + 1) (0, 0) Q 1 [.ref r0, .int x1] [.int x1] μ
  refine g_ifz_ne (pc' := 16) (off := 15) (by decide) (by decide +kernel) (fun hc => ?_) (fun hc => ?_)
  · replace h := h.2 hc
    show G Γ m_FB_readsAs (d + 1) (0, 0) Q 16 [.ref r0, .int x1] [] μ
    refine run_ok (pc' := 18) [(.iload_n 1, 0, 0, 0), (.iconst 1, 0, 0, 0)] _ _ _ _ (by decide +kernel) ?_
    show G Γ m_FB_readsAs (d + 1) (0, 0) Q 18 [.ref r0, .int x1] [.int (w 1), .int x1] μ
    refine g_icmp_ne (pc' := 40) (off := 22) (by decide) (by decide +kernel) (fun hc => ?_) (fun hc => ?_)
    · replace h := h.2 hc
      show G Γ m_FB_readsAs (d + 1) (0, 0) Q 40 [.ref r0, .int x1] [] μ
      obtain ⟨ib1, h⟩ := h
      obtain ⟨a1, ea1, h⟩ := h
      refine run_ok (pc' := 53) [(.aload_n 0, 0, 0, 0), (.getfield 38, 10, 6, 2), (.aload_n 0, 0, 0, 0), (.getfield 138, 10, 7, 0), (.aaload, 6, 0, 0), (.aload_n 0, 0, 0, 0), (.getfield 10, 10, 0, 2)] _ _ _ _ (by decide +kernel) ?_
      show _ ∧ (∃ _, _ ∧ (_ ∧ (_ ∧ (∃ _, _ ∧ (_ ∧ (∃ _, _ ∧ (_)))))))
      refine ⟨o_r0_10, r0_6, e_r0_6, o_r0_10, ib1, a1, ea1, o_r0_10, r0_0, e_r0_0, ?_⟩
      show G Γ m_FB_readsAs (d + 1) (0, 0) Q 53 [.ref r0, .int x1] [.ref r0_0, .ref a1] μ
      obtain ⟨o_a1_7, h⟩ := h
      refine g_invV (M' := m_Pl_readFrom) (b1 := 0) (b2 := 0) (As := [.ref r0_0]) (a := a1) (st := []) lk_10_141 (by decide +kernel) rfl (dk_Pl_readFrom d) (Nat.le_of_ble_eq_true rfl) (Or.inl ⟨7, o_a1_7, rfl⟩) h ?_
      rintro _ μ2 ⟨v2, rfl, h⟩ hn2
      show G Γ m_FB_readsAs (d + 1) (0, 0) Q 56 [.ref r0, .int x1] [.int v2] μ2
      exact g_retz (by decide +kernel) rfl h.1 h.2
    · replace h := h.1 hc
      show G Γ m_FB_readsAs (d + 1) (0, 0) Q 21 [.ref r0, .int x1] [] μ
      obtain ⟨ib3, h⟩ := h
      obtain ⟨a3, ea3, h⟩ := h
      refine run_ok (pc' := 34) [(.aload_n 0, 0, 0, 0), (.getfield 28, 10, 3, 2), (.aload_n 0, 0, 0, 0), (.getfield 134, 10, 4, 0), (.aaload, 5, 0, 0), (.aload_n 0, 0, 0, 0), (.getfield 10, 10, 0, 2)] _ _ _ _ (by decide +kernel) ?_
      show _ ∧ (∃ _, _ ∧ (_ ∧ (_ ∧ (∃ _, _ ∧ (_ ∧ (∃ _, _ ∧ (_)))))))
      refine ⟨o_r0_10, r0_3, e_r0_3, o_r0_10, ib3, a3, ea3, o_r0_10, r0_0, e_r0_0, ?_⟩
      show G Γ m_FB_readsAs (d + 1) (0, 0) Q 34 [.ref r0, .int x1] [.ref r0_0, .ref a3] μ
      obtain ⟨o_a3_2, h⟩ := h
      refine g_invV (M' := m_La_readFrom) (b1 := 0) (b2 := 0) (As := [.ref r0_0]) (a := a3) (st := []) lk_10_137 (by decide +kernel) rfl (dk_La_readFrom d) (Nat.le_of_ble_eq_true rfl) (Or.inl ⟨2, o_a3_2, rfl⟩) h ?_
      rintro _ μ4 ⟨v4, rfl, h⟩ hn4
      show G Γ m_FB_readsAs (d + 1) (0, 0) Q 37 [.ref r0, .int x1] [.int v4] μ4
      refine run_ok (pc' := 56) [(.goto 19, 0, 0, 0)] _ _ _ _ (by decide +kernel) ?_
      show G Γ m_FB_readsAs (d + 1) (0, 0) Q 56 [.ref r0, .int x1] [.int v4] μ4
      exact g_retz (by decide +kernel) rfl h.1 h.2
  · replace h := h.1 hc
    show G Γ m_FB_readsAs (d + 1) (0, 0) Q 4 [.ref r0, .int x1] [] μ
    refine run_ok (pc' := 12) [(.aload_n 0, 0, 0, 0), (.getfield 23, 10, 2, 2), (.aload_n 0, 0, 0, 0), (.getfield 10, 10, 0, 2)] _ _ _ _ (by decide +kernel) ?_
    show _ ∧ (∃ _, _ ∧ (_ ∧ (∃ _, _ ∧ (_))))
    refine ⟨o_r0_10, r0_2, e_r0_2, o_r0_10, r0_0, e_r0_0, ?_⟩
    show G Γ m_FB_readsAs (d + 1) (0, 0) Q 12 [.ref r0, .int x1] [.ref r0_0, .ref r0_2] μ
    refine g_invV (M' := m_Ho_readFrom) (b1 := 0) (b2 := 0) (As := [.ref r0_0]) (a := r0_2) (st := []) lk_10_130 (by decide +kernel) rfl (dk_Ho_readFrom d) (Nat.le_of_ble_eq_true rfl) (Or.inl ⟨1, o_r0_2_1, rfl⟩) h ?_
    rintro _ μ5 ⟨v5, rfl, h⟩ hn5
    show G Γ m_FB_readsAs (d + 1) (0, 0) Q 15 [.ref r0, .int x1] [.int v5] μ5
    exact g_retz (by decide +kernel) rfl h.1 h.2
/-! FrostBox tellHouse()I -/
set_option maxRecDepth 100000 in
theorem lk_10_145 : LkV 10 145 m_Pi_copyFrom 1 := ⟨lc_Pi_copyFrom, lwG_in (List.mem_of_getElem? (i := 657) rfl) rfl, lwG_in (List.mem_of_getElem? (i := 658) rfl) rfl, lwG_in (List.mem_of_getElem? (i := 659) rfl) rfl⟩
set_option maxRecDepth 100000 in
theorem B_FB_tellHouse_0 {Γ : XG} {d : Nat} {Q : Option Value → XM → Prop} {r0 r0_2 r0_1 r0_9 : Nat} {μ : XM} (o_r0_10 : ob μ r0 10) (e_r0_2 : xR μ r0 2 = some r0_2) (e_r0_1 : xR μ r0 1 = some r0_1) (e_r0_9 : xR μ r0 9 = some r0_9) (o_r0_9_6 : ob μ r0_9 6) (h : ∀ μ1, μ1 = sR μ r0 2 (some r0_1) → ∀ μ2, μ2 = sR μ1 r0 1 (some r0_2) → ∃ a3, xR μ2 r0 1 = some a3 ∧ ob μ2 a3 1 ∧ ∃ a4, xR μ2 a3 3 = some a4 ∧ Call Γ m_Pi_copyFrom d [.ref r0_9, .ref a4] μ2 (KV (fun μ5 => ∃ a6, xR μ5 r0 11 = some a6 ∧ ob μ5 a6 0 ∧ ∀ μ7, μ7 = sI μ5 a6 3 (w 0) → ∃ a8, xR μ7 r0 12 = some a8 ∧ ob μ7 a8 4 ∧ ∀ μ9, μ9 = sI μ7 a8 1 (w 0) → ∃ a10, xR μ9 r0 13 = some a10 ∧ ob μ9 a10 8 ∧ ∀ μ11, μ11 = sI μ9 a10 2 (w 0) → ∃ a12, xR μ11 r0 14 = some a12 ∧ ob μ11 a12 3 ∧ ∀ μ13, μ13 = sI μ11 a12 2 (w 0) → ∃ a14, xR μ13 r0 15 = some a14 ∧ ob μ13 a14 5 ∧ ∀ μ15, μ15 = sI μ13 a14 5 (w 0) → ∃ a16, xR μ15 r0 0 = some a16 ∧ ob μ15 a16 9 ∧ ∀ μ17, μ17 = sI μ15 a16 1 (w 0) → xR μ17 r0 1 = some a3 ∧ Q (some (.int (xI μ17 a3 4))) μ17))) : G Γ m_FB_tellHouse (d + 1) (0, 0) Q 0 [.ref r0] [] μ := by
  refine run_ok (pc' := 13) [(.aload_n 0, 0, 0, 0), (.getfield 23, 10, 2, 2), (.astore_n 1, 0, 0, 0), (.aload_n 0, 0, 0, 0), (.aload_n 0, 0, 0, 0), (.getfield 19, 10, 1, 2), (.putfield 23, 10, 2, 2)] _ _ _ _ (by decide +kernel) ?_
  show _ ∧ (∃ _, _ ∧ (_ ∧ (∃ _, _ ∧ (_ ∧ (_ ∧ (_))))))
  refine ⟨o_r0_10, r0_2, e_r0_2, o_r0_10, r0_1, e_r0_1, o_r0_10, rfl, ?_⟩
  show G Γ m_FB_tellHouse (d + 1) (0, 0) Q 13 [.ref r0, .ref r0_2] [] (sR μ r0 2 (some r0_1))
  obtain ⟨μ1, em1⟩ : ∃ m : XM, m = sR μ r0 2 (some r0_1) := ⟨_, rfl⟩
  replace h := h μ1 em1
  have hm1 : xN μ ≤ xN μ1 := by rw [em1]; exact Nat.le_refl _
  rw [← em1]
  refine run_ok (pc' := 18) [(.aload_n 0, 0, 0, 0), (.aload_n 1, 0, 0, 0), (.putfield 19, 10, 1, 2)] _ _ _ _ (by decide +kernel) ?_
  show _ ∧ (_ ∧ (_))
  refine ⟨((o_r0_10).mono hm1), rfl, ?_⟩
  show G Γ m_FB_tellHouse (d + 1) (0, 0) Q 18 [.ref r0, .ref r0_2] [] (sR μ1 r0 1 (some r0_2))
  obtain ⟨μ2, em2⟩ : ∃ m : XM, m = sR μ1 r0 1 (some r0_2) := ⟨_, rfl⟩
  replace h := h μ2 em2
  have hm2 : xN μ1 ≤ xN μ2 := by rw [em2]; exact Nat.le_refl _
  rw [← em2]
  obtain ⟨a3, ea3, h⟩ := h
  obtain ⟨o_a3_1, h⟩ := h
  obtain ⟨a4, ea4, h⟩ := h
  refine run_ok (pc' := 29) [(.aload_n 0, 0, 0, 0), (.getfield 48, 10, 9, 2), (.aload_n 0, 0, 0, 0), (.getfield 19, 10, 1, 2), (.getfield 142, 1, 3, 2)] _ _ _ _ (by decide +kernel) ?_
  show _ ∧ (∃ _, _ ∧ (_ ∧ (∃ _, _ ∧ (_ ∧ (∃ _, _ ∧ (_))))))
  refine ⟨(((o_r0_10).mono hm1).mono hm2), r0_9, (by rw [em2, xR_sR_ne (by decide)]; exact (by rw [em1, xR_sR_ne (by decide)]; exact e_r0_9)), (((o_r0_10).mono hm1).mono hm2), a3, ea3, o_a3_1, a4, ea4, ?_⟩
  show G Γ m_FB_tellHouse (d + 1) (0, 0) Q 29 [.ref r0, .ref r0_2] [.ref a4, .ref r0_9] μ2
  refine g_invV (M' := m_Pi_copyFrom) (b1 := 0) (b2 := 0) (As := [.ref a4]) (a := r0_9) (st := []) lk_10_145 (by decide +kernel) rfl (dk_Pi_copyFrom d) (Nat.le_of_ble_eq_true rfl) (Or.inl ⟨6, (((o_r0_9_6).mono hm1).mono hm2), rfl⟩) h ?_
  rintro _ μ5 ⟨rfl, h⟩ hn5
  show G Γ m_FB_tellHouse (d + 1) (0, 0) Q 32 [.ref r0, .ref r0_2] [] μ5
  obtain ⟨a6, ea6, h⟩ := h
  obtain ⟨o_a6_0, h⟩ := h
  refine run_ok (pc' := 40) [(.aload_n 0, 0, 0, 0), (.getfield 58, 10, 11, 2), (.iconst 0, 0, 0, 0), (.putfield 149, 0, 3, 0)] _ _ _ _ (by decide +kernel) ?_
  show _ ∧ (∃ _, _ ∧ (_ ∧ (_)))
  refine ⟨((((o_r0_10).mono hm1).mono hm2).mono hn5), a6, ea6, o_a6_0, ?_⟩
  show G Γ m_FB_tellHouse (d + 1) (0, 0) Q 40 [.ref r0, .ref r0_2] [] (sI μ5 a6 3 (w 0))
  obtain ⟨μ7, em7⟩ : ∃ m : XM, m = sI μ5 a6 3 (w 0) := ⟨_, rfl⟩
  replace h := h μ7 em7
  have hm7 : xN μ5 ≤ xN μ7 := by rw [em7]; exact Nat.le_refl _
  rw [← em7]
  obtain ⟨a8, ea8, h⟩ := h
  obtain ⟨o_a8_4, h⟩ := h
  refine run_ok (pc' := 48) [(.aload_n 0, 0, 0, 0), (.getfield 65, 10, 12, 2), (.iconst 0, 0, 0, 0), (.putfield 152, 4, 1, 0)] _ _ _ _ (by decide +kernel) ?_
  show _ ∧ (∃ _, _ ∧ (_ ∧ (_)))
  refine ⟨(((((o_r0_10).mono hm1).mono hm2).mono hn5).mono hm7), a8, ea8, o_a8_4, ?_⟩
  show G Γ m_FB_tellHouse (d + 1) (0, 0) Q 48 [.ref r0, .ref r0_2] [] (sI μ7 a8 1 (w 0))
  obtain ⟨μ9, em9⟩ : ∃ m : XM, m = sI μ7 a8 1 (w 0) := ⟨_, rfl⟩
  replace h := h μ9 em9
  have hm9 : xN μ7 ≤ xN μ9 := by rw [em9]; exact Nat.le_refl _
  rw [← em9]
  obtain ⟨a10, ea10, h⟩ := h
  obtain ⟨o_a10_8, h⟩ := h
  refine run_ok (pc' := 56) [(.aload_n 0, 0, 0, 0), (.getfield 72, 10, 13, 2), (.iconst 0, 0, 0, 0), (.putfield 155, 8, 2, 3)] _ _ _ _ (by decide +kernel) ?_
  show _ ∧ (∃ _, _ ∧ (_ ∧ (_ ∧ (_))))
  refine ⟨((((((o_r0_10).mono hm1).mono hm2).mono hn5).mono hm7).mono hm9), a10, ea10, o_a10_8, Or.inl rfl, ?_⟩
  show G Γ m_FB_tellHouse (d + 1) (0, 0) Q 56 [.ref r0, .ref r0_2] [] (sI μ9 a10 2 (w 0))
  obtain ⟨μ11, em11⟩ : ∃ m : XM, m = sI μ9 a10 2 (w 0) := ⟨_, rfl⟩
  replace h := h μ11 em11
  have hm11 : xN μ9 ≤ xN μ11 := by rw [em11]; exact Nat.le_refl _
  rw [← em11]
  obtain ⟨a12, ea12, h⟩ := h
  obtain ⟨o_a12_3, h⟩ := h
  refine run_ok (pc' := 64) [(.aload_n 0, 0, 0, 0), (.getfield 79, 10, 14, 2), (.iconst 0, 0, 0, 0), (.putfield 159, 3, 2, 0)] _ _ _ _ (by decide +kernel) ?_
  show _ ∧ (∃ _, _ ∧ (_ ∧ (_)))
  refine ⟨(((((((o_r0_10).mono hm1).mono hm2).mono hn5).mono hm7).mono hm9).mono hm11), a12, ea12, o_a12_3, ?_⟩
  show G Γ m_FB_tellHouse (d + 1) (0, 0) Q 64 [.ref r0, .ref r0_2] [] (sI μ11 a12 2 (w 0))
  obtain ⟨μ13, em13⟩ : ∃ m : XM, m = sI μ11 a12 2 (w 0) := ⟨_, rfl⟩
  replace h := h μ13 em13
  have hm13 : xN μ11 ≤ xN μ13 := by rw [em13]; exact Nat.le_refl _
  rw [← em13]
  obtain ⟨a14, ea14, h⟩ := h
  obtain ⟨o_a14_5, h⟩ := h
  refine run_ok (pc' := 72) [(.aload_n 0, 0, 0, 0), (.getfield 86, 10, 15, 2), (.iconst 0, 0, 0, 0), (.putfield 160, 5, 5, 0)] _ _ _ _ (by decide +kernel) ?_
  show _ ∧ (∃ _, _ ∧ (_ ∧ (_)))
  refine ⟨((((((((o_r0_10).mono hm1).mono hm2).mono hn5).mono hm7).mono hm9).mono hm11).mono hm13), a14, ea14, o_a14_5, ?_⟩
  show G Γ m_FB_tellHouse (d + 1) (0, 0) Q 72 [.ref r0, .ref r0_2] [] (sI μ13 a14 5 (w 0))
  obtain ⟨μ15, em15⟩ : ∃ m : XM, m = sI μ13 a14 5 (w 0) := ⟨_, rfl⟩
  replace h := h μ15 em15
  have hm15 : xN μ13 ≤ xN μ15 := by rw [em15]; exact Nat.le_refl _
  rw [← em15]
  obtain ⟨a16, ea16, h⟩ := h
  obtain ⟨o_a16_9, h⟩ := h
  refine run_ok (pc' := 80) [(.aload_n 0, 0, 0, 0), (.getfield 10, 10, 0, 2), (.iconst 0, 0, 0, 0), (.putfield 106, 9, 1, 0)] _ _ _ _ (by decide +kernel) ?_
  show _ ∧ (∃ _, _ ∧ (_ ∧ (_)))
  refine ⟨(((((((((o_r0_10).mono hm1).mono hm2).mono hn5).mono hm7).mono hm9).mono hm11).mono hm13).mono hm15), a16, ea16, o_a16_9, ?_⟩
  show G Γ m_FB_tellHouse (d + 1) (0, 0) Q 80 [.ref r0, .ref r0_2] [] (sI μ15 a16 1 (w 0))
  obtain ⟨μ17, em17⟩ : ∃ m : XM, m = sI μ15 a16 1 (w 0) := ⟨_, rfl⟩
  replace h := h μ17 em17
  have hm17 : xN μ15 ≤ xN μ17 := by rw [em17]; exact Nat.le_refl _
  rw [← em17]
  obtain ⟨ea18, h⟩ := h
  refine run_ok (pc' := 87) [(.aload_n 0, 0, 0, 0), (.getfield 19, 10, 1, 2), (.getfield 161, 1, 4, 0)] _ _ _ _ (by decide +kernel) ?_
  show _ ∧ (∃ _, _ ∧ (_ ∧ (_)))
  refine ⟨((((((((((o_r0_10).mono hm1).mono hm2).mono hn5).mono hm7).mono hm9).mono hm11).mono hm13).mono hm15).mono hm17), a3, ea18, ((((((((o_a3_1).mono hn5).mono hm7).mono hm9).mono hm11).mono hm13).mono hm15).mono hm17), ?_⟩
  show G Γ m_FB_tellHouse (d + 1) (0, 0) Q 87 [.ref r0, .ref r0_2] [.int (xI μ17 a3 4)] μ17
  exact g_reti (by decide +kernel) rfl h
/-! FrostBox tellLaw()I -/
set_option maxRecDepth 100000 in
theorem B_FB_tellLaw_0 {Γ : XG} {d : Nat} {Q : Option Value → XM → Prop} {r0 r0_0 : Nat} {μ : XM} (o_r0_10 : ob μ r0 10) (e_r0_0 : xR μ r0 0 = some r0_0) (o_r0_0_9 : ob μ r0_0 9) (h : ((xI μ r0 4 < w 4 → ∀ μ1, μ1 = sI μ r0_0 1 (w 0) → ∀ μ2, μ2 = sI μ1 r0 4 ((xI μ1 r0 4) + (w 1)) → Q (some (.int ((xI μ2 r0 4) - (w 1)))) μ2) ∧ (¬ xI μ r0 4 < w 4 → Q (some (.int (w (-1)))) μ))) : G Γ m_FB_tellLaw (d + 1) (0, 0) Q 0 [.ref r0] [] μ := by
  refine run_ok (pc' := 5) [(.aload_n 0, 0, 0, 0), (.getfield 134, 10, 4, 0), (.iconst 4, 0, 0, 0)] _ _ _ _ (by decide +kernel) ?_
  show _ ∧ (_)
  refine ⟨o_r0_10, ?_⟩
  show G Γ m_FB_tellLaw (d + 1) (0, 0) Q 5 [.ref r0] [.int (w 4), .int (xI μ r0 4)] μ
  refine g_icmp_lt (pc' := 10) (off := 5) (by decide) (by decide +kernel) (fun hc => ?_) (fun hc => ?_)
  · replace h := h.1 hc
    show G Γ m_FB_tellLaw (d + 1) (0, 0) Q 10 [.ref r0] [] μ
    refine run_ok (pc' := 18) [(.aload_n 0, 0, 0, 0), (.getfield 10, 10, 0, 2), (.iconst 0, 0, 0, 0), (.putfield 106, 9, 1, 0)] _ _ _ _ (by decide +kernel) ?_
    show _ ∧ (∃ _, _ ∧ (_ ∧ (_)))
    refine ⟨o_r0_10, r0_0, e_r0_0, o_r0_0_9, ?_⟩
    show G Γ m_FB_tellLaw (d + 1) (0, 0) Q 18 [.ref r0] [] (sI μ r0_0 1 (w 0))
    obtain ⟨μ1, em1⟩ : ∃ m : XM, m = sI μ r0_0 1 (w 0) := ⟨_, rfl⟩
    replace h := h μ1 em1
    have hm1 : xN μ ≤ xN μ1 := by rw [em1]; exact Nat.le_refl _
    rw [← em1]
    refine run_ok (pc' := 28) [(.aload_n 0, 0, 0, 0), (.dup, 0, 0, 0), (.getfield 134, 10, 4, 0), (.iconst 1, 0, 0, 0), (.iadd, 0, 0, 0), (.putfield 134, 10, 4, 0)] _ _ _ _ (by decide +kernel) ?_
    show _ ∧ (_ ∧ (_))
    refine ⟨((o_r0_10).mono hm1), ((o_r0_10).mono hm1), ?_⟩
    show G Γ m_FB_tellLaw (d + 1) (0, 0) Q 28 [.ref r0] [] (sI μ1 r0 4 ((xI μ1 r0 4) + (w 1)))
    obtain ⟨μ2, em2⟩ : ∃ m : XM, m = sI μ1 r0 4 ((xI μ1 r0 4) + (w 1)) := ⟨_, rfl⟩
    replace h := h μ2 em2
    have hm2 : xN μ1 ≤ xN μ2 := by rw [em2]; exact Nat.le_refl _
    rw [← em2]
    refine run_ok (pc' := 34) [(.aload_n 0, 0, 0, 0), (.getfield 134, 10, 4, 0), (.iconst 1, 0, 0, 0), (.isub, 0, 0, 0)] _ _ _ _ (by decide +kernel) ?_
    show _ ∧ (_)
    refine ⟨(((o_r0_10).mono hm1).mono hm2), ?_⟩
    show G Γ m_FB_tellLaw (d + 1) (0, 0) Q 34 [.ref r0] [.int ((xI μ2 r0 4) - (w 1))] μ2
    exact g_reti (by decide +kernel) rfl h
  · replace h := h.2 hc
    show G Γ m_FB_tellLaw (d + 1) (0, 0) Q 8 [.ref r0] [] μ
    refine run_ok (pc' := 9) [(.iconst (-1), 0, 0, 0)] _ _ _ _ (by decide +kernel) ?_
    show G Γ m_FB_tellLaw (d + 1) (0, 0) Q 9 [.ref r0] [.int (w (-1))] μ
    exact g_reti (by decide +kernel) rfl h
/-! FrostBox tellPlan()I -/
set_option maxRecDepth 100000 in
theorem B_FB_tellPlan_0 {Γ : XG} {d : Nat} {Q : Option Value → XM → Prop} {r0 r0_0 : Nat} {μ : XM} (o_r0_10 : ob μ r0 10) (e_r0_0 : xR μ r0 0 = some r0_0) (o_r0_0_9 : ob μ r0_0 9) (h : ((xI μ r0 7 < w 4 → ∀ μ1, μ1 = sI μ r0_0 1 (w 0) → ∀ μ2, μ2 = sI μ1 r0 7 ((xI μ1 r0 7) + (w 1)) → Q (some (.int ((xI μ2 r0 7) - (w 1)))) μ2) ∧ (¬ xI μ r0 7 < w 4 → Q (some (.int (w (-1)))) μ))) : G Γ m_FB_tellPlan (d + 1) (0, 0) Q 0 [.ref r0] [] μ := by
  refine run_ok (pc' := 5) [(.aload_n 0, 0, 0, 0), (.getfield 138, 10, 7, 0), (.iconst 4, 0, 0, 0)] _ _ _ _ (by decide +kernel) ?_
  show _ ∧ (_)
  refine ⟨o_r0_10, ?_⟩
  show G Γ m_FB_tellPlan (d + 1) (0, 0) Q 5 [.ref r0] [.int (w 4), .int (xI μ r0 7)] μ
  refine g_icmp_lt (pc' := 10) (off := 5) (by decide) (by decide +kernel) (fun hc => ?_) (fun hc => ?_)
  · replace h := h.1 hc
    show G Γ m_FB_tellPlan (d + 1) (0, 0) Q 10 [.ref r0] [] μ
    refine run_ok (pc' := 18) [(.aload_n 0, 0, 0, 0), (.getfield 10, 10, 0, 2), (.iconst 0, 0, 0, 0), (.putfield 106, 9, 1, 0)] _ _ _ _ (by decide +kernel) ?_
    show _ ∧ (∃ _, _ ∧ (_ ∧ (_)))
    refine ⟨o_r0_10, r0_0, e_r0_0, o_r0_0_9, ?_⟩
    show G Γ m_FB_tellPlan (d + 1) (0, 0) Q 18 [.ref r0] [] (sI μ r0_0 1 (w 0))
    obtain ⟨μ1, em1⟩ : ∃ m : XM, m = sI μ r0_0 1 (w 0) := ⟨_, rfl⟩
    replace h := h μ1 em1
    have hm1 : xN μ ≤ xN μ1 := by rw [em1]; exact Nat.le_refl _
    rw [← em1]
    refine run_ok (pc' := 28) [(.aload_n 0, 0, 0, 0), (.dup, 0, 0, 0), (.getfield 138, 10, 7, 0), (.iconst 1, 0, 0, 0), (.iadd, 0, 0, 0), (.putfield 138, 10, 7, 0)] _ _ _ _ (by decide +kernel) ?_
    show _ ∧ (_ ∧ (_))
    refine ⟨((o_r0_10).mono hm1), ((o_r0_10).mono hm1), ?_⟩
    show G Γ m_FB_tellPlan (d + 1) (0, 0) Q 28 [.ref r0] [] (sI μ1 r0 7 ((xI μ1 r0 7) + (w 1)))
    obtain ⟨μ2, em2⟩ : ∃ m : XM, m = sI μ1 r0 7 ((xI μ1 r0 7) + (w 1)) := ⟨_, rfl⟩
    replace h := h μ2 em2
    have hm2 : xN μ1 ≤ xN μ2 := by rw [em2]; exact Nat.le_refl _
    rw [← em2]
    refine run_ok (pc' := 34) [(.aload_n 0, 0, 0, 0), (.getfield 138, 10, 7, 0), (.iconst 1, 0, 0, 0), (.isub, 0, 0, 0)] _ _ _ _ (by decide +kernel) ?_
    show _ ∧ (_)
    refine ⟨(((o_r0_10).mono hm1).mono hm2), ?_⟩
    show G Γ m_FB_tellPlan (d + 1) (0, 0) Q 34 [.ref r0] [.int ((xI μ2 r0 7) - (w 1))] μ2
    exact g_reti (by decide +kernel) rfl h
  · replace h := h.2 hc
    show G Γ m_FB_tellPlan (d + 1) (0, 0) Q 8 [.ref r0] [] μ
    refine run_ok (pc' := 9) [(.iconst (-1), 0, 0, 0)] _ _ _ _ (by decide +kernel) ?_
    show G Γ m_FB_tellPlan (d + 1) (0, 0) Q 9 [.ref r0] [.int (w (-1))] μ
    exact g_reti (by decide +kernel) rfl h
/-! FrostBox hasHouse()Z -/
set_option maxRecDepth 100000 in
theorem B_FB_hasHouse_0 {Γ : XG} {d : Nat} {Q : Option Value → XM → Prop} {r0 r0_1 : Nat} {μ : XM} (o_r0_10 : ob μ r0 10) (e_r0_1 : xR μ r0 1 = some r0_1) (o_r0_1_1 : ob μ r0_1 1) (h : ((w 0 < xI μ r0_1 4 → Q (some (.int (w 1))) μ) ∧ (¬ w 0 < xI μ r0_1 4 → Q (some (.int (w 0))) μ))) : G Γ m_FB_hasHouse (d + 1) (0, 0) Q 0 [.ref r0] [] μ := by
  refine run_ok (pc' := 7) [(.aload_n 0, 0, 0, 0), (.getfield 19, 10, 1, 2), (.getfield 161, 1, 4, 0)] _ _ _ _ (by decide +kernel) ?_
  show _ ∧ (∃ _, _ ∧ (_ ∧ (_)))
  refine ⟨o_r0_10, r0_1, e_r0_1, o_r0_1_1, ?_⟩
  show G Γ m_FB_hasHouse (d + 1) (0, 0) Q 7 [.ref r0] [.int (xI μ r0_1 4)] μ
  refine g_ifz_le (pc' := 14) (off := 7) (by decide) (by decide +kernel) (fun hc => ?_) (fun hc => ?_)
  · replace h := h.2 hc
    show G Γ m_FB_hasHouse (d + 1) (0, 0) Q 14 [.ref r0] [] μ
    refine run_ok (pc' := 15) [(.iconst 0, 0, 0, 0)] _ _ _ _ (by decide +kernel) ?_
    show G Γ m_FB_hasHouse (d + 1) (0, 0) Q 15 [.ref r0] [.int (w 0)] μ
    exact g_retz (by decide +kernel) rfl (Or.inl rfl) h
  · replace h := h.1 hc
    show G Γ m_FB_hasHouse (d + 1) (0, 0) Q 10 [.ref r0] [] μ
    refine run_ok (pc' := 15) [(.iconst 1, 0, 0, 0), (.goto 4, 0, 0, 0)] _ _ _ _ (by decide +kernel) ?_
    show G Γ m_FB_hasHouse (d + 1) (0, 0) Q 15 [.ref r0] [.int (w 1)] μ
    exact g_retz (by decide +kernel) rfl (Or.inr rfl) h
/-! FrostBox isKind(I)Z -/
set_option maxRecDepth 100000 in
theorem lk_10_162 : LkV 10 162 m_FB_hasHouse 0 := ⟨lc_FB_hasHouse, lwG_in (List.mem_of_getElem? (i := 666) rfl) rfl, lwG_in (List.mem_of_getElem? (i := 668) rfl) rfl, lwG_in (List.mem_of_getElem? (i := 19) rfl) rfl⟩
set_option maxRecDepth 100000 in
theorem B_FB_isKind_0 {Γ : XG} {d : Nat} {Q : Option Value → XM → Prop} {r0 : Nat} {x1 : Int32} {μ : XM} (o_r0_10 : ob μ r0 10) (h : Call Γ m_FB_hasHouse d [.ref r0] μ (KI (fun v1 μ1 => ((v1 = w 0 → Q (some (.int (w 0))) μ1) ∧ (¬ v1 = w 0 → ((x1 < w 0 → Q (some (.int (w 0))) μ1) ∧ (¬ x1 < w 0 → ∃ a2, xR μ1 r0 1 = some a2 ∧ ob μ1 a2 1 ∧ ((x1 < xI μ1 a2 4 → Q (some (.int (w 1))) μ1) ∧ (¬ x1 < xI μ1 a2 4 → Q (some (.int (w 0))) μ1))))))))) : G Γ m_FB_isKind (d + 1) (0, 0) Q 0 [.ref r0, .int x1] [] μ := by
  refine run_ok (pc' := 1) [(.aload_n 0, 0, 0, 0)] _ _ _ _ (by decide +kernel) ?_
  show G Γ m_FB_isKind (d + 1) (0, 0) Q 1 [.ref r0, .int x1] [.ref r0] μ
  refine g_invV (M' := m_FB_hasHouse) (b1 := 0) (b2 := 0) (As := []) (a := r0) (st := []) lk_10_162 (by decide +kernel) rfl (dk_FB_hasHouse d) (Nat.le_of_ble_eq_true rfl) (Or.inl ⟨10, o_r0_10, rfl⟩) h ?_
  rintro _ μ1 ⟨v1, rfl, h⟩ hn1
  show G Γ m_FB_isKind (d + 1) (0, 0) Q 4 [.ref r0, .int x1] [.int v1] μ1
  refine g_ifz_eq (pc' := 26) (off := 22) (by decide) (by decide +kernel) (fun hc => ?_) (fun hc => ?_)
  · replace h := h.1 hc
    show G Γ m_FB_isKind (d + 1) (0, 0) Q 26 [.ref r0, .int x1] [] μ1
    refine run_ok (pc' := 27) [(.iconst 0, 0, 0, 0)] _ _ _ _ (by decide +kernel) ?_
    show G Γ m_FB_isKind (d + 1) (0, 0) Q 27 [.ref r0, .int x1] [.int (w 0)] μ1
    exact g_retz (by decide +kernel) rfl (Or.inl rfl) h
  · replace h := h.2 hc
    show G Γ m_FB_isKind (d + 1) (0, 0) Q 7 [.ref r0, .int x1] [] μ1
    refine run_ok (pc' := 8) [(.iload_n 1, 0, 0, 0)] _ _ _ _ (by decide +kernel) ?_
    show G Γ m_FB_isKind (d + 1) (0, 0) Q 8 [.ref r0, .int x1] [.int x1] μ1
    refine g_ifz_lt (pc' := 26) (off := 18) (by decide) (by decide +kernel) (fun hc => ?_) (fun hc => ?_)
    · replace h := h.1 hc
      show G Γ m_FB_isKind (d + 1) (0, 0) Q 26 [.ref r0, .int x1] [] μ1
      refine run_ok (pc' := 27) [(.iconst 0, 0, 0, 0)] _ _ _ _ (by decide +kernel) ?_
      show G Γ m_FB_isKind (d + 1) (0, 0) Q 27 [.ref r0, .int x1] [.int (w 0)] μ1
      exact g_retz (by decide +kernel) rfl (Or.inl rfl) h
    · replace h := h.2 hc
      show G Γ m_FB_isKind (d + 1) (0, 0) Q 11 [.ref r0, .int x1] [] μ1
      obtain ⟨a2, ea2, h⟩ := h
      obtain ⟨o_a2_1, h⟩ := h
      refine run_ok (pc' := 19) [(.iload_n 1, 0, 0, 0), (.aload_n 0, 0, 0, 0), (.getfield 19, 10, 1, 2), (.getfield 161, 1, 4, 0)] _ _ _ _ (by decide +kernel) ?_
      show _ ∧ (∃ _, _ ∧ (_ ∧ (_)))
      refine ⟨((o_r0_10).mono hn1), a2, ea2, o_a2_1, ?_⟩
      show G Γ m_FB_isKind (d + 1) (0, 0) Q 19 [.ref r0, .int x1] [.int (xI μ1 a2 4), .int x1] μ1
      refine g_icmp_ge (pc' := 26) (off := 7) (by decide) (by decide +kernel) (fun hc => ?_) (fun hc => ?_)
      · replace h := h.2 hc
        show G Γ m_FB_isKind (d + 1) (0, 0) Q 26 [.ref r0, .int x1] [] μ1
        refine run_ok (pc' := 27) [(.iconst 0, 0, 0, 0)] _ _ _ _ (by decide +kernel) ?_
        show G Γ m_FB_isKind (d + 1) (0, 0) Q 27 [.ref r0, .int x1] [.int (w 0)] μ1
        exact g_retz (by decide +kernel) rfl (Or.inl rfl) h
      · replace h := h.1 hc
        show G Γ m_FB_isKind (d + 1) (0, 0) Q 22 [.ref r0, .int x1] [] μ1
        refine run_ok (pc' := 27) [(.iconst 1, 0, 0, 0), (.goto 4, 0, 0, 0)] _ _ _ _ (by decide +kernel) ?_
        show G Γ m_FB_isKind (d + 1) (0, 0) Q 27 [.ref r0, .int x1] [.int (w 1)] μ1
        exact g_retz (by decide +kernel) rfl (Or.inr rfl) h
/-! FrostBox rule(I)I -/
set_option maxRecDepth 100000 in
theorem B_FB_rule_0 {Γ : XG} {d : Nat} {Q : Option Value → XM → Prop} {r0 : Nat} {x1 : Int32} {μ : XM} (o_r0_10 : ob μ r0 10) (h : Call Γ m_FB_hasHouse d [.ref r0] μ (KI (fun v1 μ1 => ((v1 = w 0 → Q (some (.int (w (-1)))) μ1) ∧ (¬ v1 = w 0 → ((x1 < w 0 → Q (some (.int (w (-1)))) μ1) ∧ (¬ x1 < w 0 → ∃ a2, xR μ1 r0 1 = some a2 ∧ ob μ1 a2 1 ∧ ∃ a3, xR μ1 a2 0 = some a3 ∧ ∃ n4, ar μ1 a3 0 n4 ∧ ((x1 < w n4 → inb μ1 0 a3 x1 ∧ Q (some (.int (xI μ1 a3 x1.toNatClampNeg))) μ1) ∧ (¬ x1 < w n4 → Q (some (.int (w (-1)))) μ1))))))))) : G Γ m_FB_rule (d + 1) (0, 0) Q 0 [.ref r0, .int x1] [] μ := by
  refine run_ok (pc' := 1) [(.aload_n 0, 0, 0, 0)] _ _ _ _ (by decide +kernel) ?_
  show G Γ m_FB_rule (d + 1) (0, 0) Q 1 [.ref r0, .int x1] [.ref r0] μ
  refine g_invV (M' := m_FB_hasHouse) (b1 := 0) (b2 := 0) (As := []) (a := r0) (st := []) lk_10_162 (by decide +kernel) rfl (dk_FB_hasHouse d) (Nat.le_of_ble_eq_true rfl) (Or.inl ⟨10, o_r0_10, rfl⟩) h ?_
  rintro _ μ1 ⟨v1, rfl, h⟩ hn1
  show G Γ m_FB_rule (d + 1) (0, 0) Q 4 [.ref r0, .int x1] [.int v1] μ1
  refine g_ifz_eq (pc' := 35) (off := 31) (by decide) (by decide +kernel) (fun hc => ?_) (fun hc => ?_)
  · replace h := h.1 hc
    show G Γ m_FB_rule (d + 1) (0, 0) Q 35 [.ref r0, .int x1] [] μ1
    refine run_ok (pc' := 36) [(.iconst (-1), 0, 0, 0)] _ _ _ _ (by decide +kernel) ?_
    show G Γ m_FB_rule (d + 1) (0, 0) Q 36 [.ref r0, .int x1] [.int (w (-1))] μ1
    exact g_reti (by decide +kernel) rfl h
  · replace h := h.2 hc
    show G Γ m_FB_rule (d + 1) (0, 0) Q 7 [.ref r0, .int x1] [] μ1
    refine run_ok (pc' := 8) [(.iload_n 1, 0, 0, 0)] _ _ _ _ (by decide +kernel) ?_
    show G Γ m_FB_rule (d + 1) (0, 0) Q 8 [.ref r0, .int x1] [.int x1] μ1
    refine g_ifz_lt (pc' := 35) (off := 27) (by decide) (by decide +kernel) (fun hc => ?_) (fun hc => ?_)
    · replace h := h.1 hc
      show G Γ m_FB_rule (d + 1) (0, 0) Q 35 [.ref r0, .int x1] [] μ1
      refine run_ok (pc' := 36) [(.iconst (-1), 0, 0, 0)] _ _ _ _ (by decide +kernel) ?_
      show G Γ m_FB_rule (d + 1) (0, 0) Q 36 [.ref r0, .int x1] [.int (w (-1))] μ1
      exact g_reti (by decide +kernel) rfl h
    · replace h := h.2 hc
      show G Γ m_FB_rule (d + 1) (0, 0) Q 11 [.ref r0, .int x1] [] μ1
      obtain ⟨a2, ea2, h⟩ := h
      obtain ⟨o_a2_1, h⟩ := h
      obtain ⟨a3, ea3, h⟩ := h
      obtain ⟨n4, el4, h⟩ := h
      refine run_ok (pc' := 20) [(.iload_n 1, 0, 0, 0), (.aload_n 0, 0, 0, 0), (.getfield 19, 10, 1, 2), (.getfield 166, 1, 0, 2), (.arraylength, 0, 0, 0)] _ _ _ _ (by decide +kernel) ?_
      show _ ∧ (∃ _, _ ∧ (_ ∧ (∃ _, _ ∧ (∃ _, _ ∧ (_)))))
      refine ⟨((o_r0_10).mono hn1), a2, ea2, o_a2_1, a3, ea3, n4, el4, ?_⟩
      show G Γ m_FB_rule (d + 1) (0, 0) Q 20 [.ref r0, .int x1] [.int (w n4), .int x1] μ1
      refine g_icmp_ge (pc' := 35) (off := 15) (by decide) (by decide +kernel) (fun hc => ?_) (fun hc => ?_)
      · replace h := h.2 hc
        show G Γ m_FB_rule (d + 1) (0, 0) Q 35 [.ref r0, .int x1] [] μ1
        refine run_ok (pc' := 36) [(.iconst (-1), 0, 0, 0)] _ _ _ _ (by decide +kernel) ?_
        show G Γ m_FB_rule (d + 1) (0, 0) Q 36 [.ref r0, .int x1] [.int (w (-1))] μ1
        exact g_reti (by decide +kernel) rfl h
      · replace h := h.1 hc
        show G Γ m_FB_rule (d + 1) (0, 0) Q 23 [.ref r0, .int x1] [] μ1
        obtain ⟨ib5, h⟩ := h
        refine run_ok (pc' := 36) [(.aload_n 0, 0, 0, 0), (.getfield 19, 10, 1, 2), (.getfield 166, 1, 0, 2), (.iload_n 1, 0, 0, 0), (.iaload, 0, 0, 0), (.goto 4, 0, 0, 0)] _ _ _ _ (by decide +kernel) ?_
        show _ ∧ (∃ _, _ ∧ (_ ∧ (∃ _, _ ∧ (_ ∧ (_)))))
        refine ⟨((o_r0_10).mono hn1), a2, ea2, o_a2_1, a3, ea3, ib5, ?_⟩
        show G Γ m_FB_rule (d + 1) (0, 0) Q 36 [.ref r0, .int x1] [.int (xI μ1 a3 x1.toNatClampNeg)] μ1
        exact g_reti (by decide +kernel) rfl h
/-! FrostBox kind(II)I -/
set_option maxRecDepth 100000 in
theorem lk_10_169 : LkV 10 169 m_FB_isKind 1 := ⟨lc_FB_isKind, lwG_in (List.mem_of_getElem? (i := 674) rfl) rfl, lwG_in (List.mem_of_getElem? (i := 676) rfl) rfl, lwG_in (List.mem_of_getElem? (i := 20) rfl) rfl⟩
set_option maxRecDepth 100000 in
theorem B_FB_kind_0 {Γ : XG} {d : Nat} {Q : Option Value → XM → Prop} {r0 : Nat} {x1 x2 : Int32} {μ : XM} (o_r0_10 : ob μ r0 10) (h : Call Γ m_FB_isKind d [.ref r0, .int x1] μ (KI (fun v1 μ1 => ((v1 = w 0 → Q (some (.int (w (-1)))) μ1) ∧ (¬ v1 = w 0 → ((x2 < w 0 → Q (some (.int (w (-1)))) μ1) ∧ (¬ x2 < w 0 → ((w 4 < x2 → Q (some (.int (w (-1)))) μ1) ∧ (¬ w 4 < x2 → ∃ a2, xR μ1 r0 1 = some a2 ∧ ob μ1 a2 1 ∧ ∃ a3, xR μ1 a2 1 = some a3 ∧ inb μ1 8 a3 x1 ∧ ∃ a4, xR μ1 a3 x1.toNatClampNeg = some a4 ∧ inb μ1 0 a4 x2 ∧ ((x2 = w 4 → ((xI μ1 a4 x2.toNatClampNeg = w 6 → Q (some (.int (w (-1)))) μ1) ∧ (¬ xI μ1 a4 x2.toNatClampNeg = w 6 → Q (some (.int (xI μ1 a4 x2.toNatClampNeg))) μ1))) ∧ (¬ x2 = w 4 → Q (some (.int (xI μ1 a4 x2.toNatClampNeg))) μ1))))))))))) : G Γ m_FB_kind (d + 1) (0, 0) Q 0 [.ref r0, .int x1, .int x2] [] μ := by
  refine run_ok (pc' := 2) [(.aload_n 0, 0, 0, 0), (.iload_n 1, 0, 0, 0)] _ _ _ _ (by decide +kernel) ?_
  show G Γ m_FB_kind (d + 1) (0, 0) Q 2 [.ref r0, .int x1, .int x2] [.int x1, .ref r0] μ
  refine g_invV (M' := m_FB_isKind) (b1 := 0) (b2 := 0) (As := [.int x1]) (a := r0) (st := []) lk_10_169 (by decide +kernel) rfl (dk_FB_isKind d) (Nat.le_of_ble_eq_true rfl) (Or.inl ⟨10, o_r0_10, rfl⟩) h ?_
  rintro _ μ1 ⟨v1, rfl, h⟩ hn1
  show G Γ m_FB_kind (d + 1) (0, 0) Q 5 [.ref r0, .int x1, .int x2] [.int v1] μ1
  refine g_ifz_eq (pc' := 17) (off := 12) (by decide) (by decide +kernel) (fun hc => ?_) (fun hc => ?_)
  · replace h := h.1 hc
    show G Γ m_FB_kind (d + 1) (0, 0) Q 17 [.ref r0, .int x1, .int x2] [] μ1
    refine run_ok (pc' := 18) [(.iconst (-1), 0, 0, 0)] _ _ _ _ (by decide +kernel) ?_
    show G Γ m_FB_kind (d + 1) (0, 0) Q 18 [.ref r0, .int x1, .int x2] [.int (w (-1))] μ1
    exact g_reti (by decide +kernel) rfl h
  · replace h := h.2 hc
    show G Γ m_FB_kind (d + 1) (0, 0) Q 8 [.ref r0, .int x1, .int x2] [] μ1
    refine run_ok (pc' := 9) [(.iload_n 2, 0, 0, 0)] _ _ _ _ (by decide +kernel) ?_
    show G Γ m_FB_kind (d + 1) (0, 0) Q 9 [.ref r0, .int x1, .int x2] [.int x2] μ1
    refine g_ifz_lt (pc' := 17) (off := 8) (by decide) (by decide +kernel) (fun hc => ?_) (fun hc => ?_)
    · replace h := h.1 hc
      show G Γ m_FB_kind (d + 1) (0, 0) Q 17 [.ref r0, .int x1, .int x2] [] μ1
      refine run_ok (pc' := 18) [(.iconst (-1), 0, 0, 0)] _ _ _ _ (by decide +kernel) ?_
      show G Γ m_FB_kind (d + 1) (0, 0) Q 18 [.ref r0, .int x1, .int x2] [.int (w (-1))] μ1
      exact g_reti (by decide +kernel) rfl h
    · replace h := h.2 hc
      show G Γ m_FB_kind (d + 1) (0, 0) Q 12 [.ref r0, .int x1, .int x2] [] μ1
      refine run_ok (pc' := 14) [(.iload_n 2, 0, 0, 0), (.iconst 4, 0, 0, 0)] _ _ _ _ (by decide +kernel) ?_
      show G Γ m_FB_kind (d + 1) (0, 0) Q 14 [.ref r0, .int x1, .int x2] [.int (w 4), .int x2] μ1
      refine g_icmp_le (pc' := 19) (off := 5) (by decide) (by decide +kernel) (fun hc => ?_) (fun hc => ?_)
      · replace h := h.2 hc
        show G Γ m_FB_kind (d + 1) (0, 0) Q 19 [.ref r0, .int x1, .int x2] [] μ1
        obtain ⟨a2, ea2, h⟩ := h
        obtain ⟨o_a2_1, h⟩ := h
        obtain ⟨a3, ea3, h⟩ := h
        obtain ⟨ib4, h⟩ := h
        obtain ⟨a4, ea4, h⟩ := h
        obtain ⟨ib5, h⟩ := h
        refine run_ok (pc' := 33) [(.aload_n 0, 0, 0, 0), (.getfield 19, 10, 1, 2), (.getfield 172, 1, 1, 2), (.iload_n 1, 0, 0, 0), (.aaload, 8, 0, 0), (.iload_n 2, 0, 0, 0), (.iaload, 0, 0, 0), (.istore_n 3, 0, 0, 0), (.iload_n 2, 0, 0, 0), (.iconst 4, 0, 0, 0)] _ _ _ _ (by decide +kernel) ?_
        show _ ∧ (∃ _, _ ∧ (_ ∧ (∃ _, _ ∧ (_ ∧ (∃ _, _ ∧ (_ ∧ (_)))))))
        refine ⟨((o_r0_10).mono hn1), a2, ea2, o_a2_1, a3, ea3, ib4, a4, ea4, ib5, ?_⟩
        show G Γ m_FB_kind (d + 1) (0, 0) Q 33 [.ref r0, .int x1, .int x2, .int (xI μ1 a4 x2.toNatClampNeg)] [.int (w 4), .int x2] μ1
        refine g_icmp_ne (pc' := 46) (off := 13) (by decide) (by decide +kernel) (fun hc => ?_) (fun hc => ?_)
        · replace h := h.2 hc
          show G Γ m_FB_kind (d + 1) (0, 0) Q 46 [.ref r0, .int x1, .int x2, .int (xI μ1 a4 x2.toNatClampNeg)] [] μ1
          refine run_ok (pc' := 47) [(.iload_n 3, 0, 0, 0)] _ _ _ _ (by decide +kernel) ?_
          show G Γ m_FB_kind (d + 1) (0, 0) Q 47 [.ref r0, .int x1, .int x2, .int (xI μ1 a4 x2.toNatClampNeg)] [.int (xI μ1 a4 x2.toNatClampNeg)] μ1
          exact g_reti (by decide +kernel) rfl h
        · replace h := h.1 hc
          show G Γ m_FB_kind (d + 1) (0, 0) Q 36 [.ref r0, .int x1, .int x2, .int (xI μ1 a4 x2.toNatClampNeg)] [] μ1
          refine run_ok (pc' := 39) [(.iload_n 3, 0, 0, 0), (.bipush 6, 0, 0, 0)] _ _ _ _ (by decide +kernel) ?_
          show G Γ m_FB_kind (d + 1) (0, 0) Q 39 [.ref r0, .int x1, .int x2, .int (xI μ1 a4 x2.toNatClampNeg)] [.int (w 6), .int (xI μ1 a4 x2.toNatClampNeg)] μ1
          refine g_icmp_ne (pc' := 46) (off := 7) (by decide) (by decide +kernel) (fun hc => ?_) (fun hc => ?_)
          · replace h := h.2 hc
            show G Γ m_FB_kind (d + 1) (0, 0) Q 46 [.ref r0, .int x1, .int x2, .int (xI μ1 a4 x2.toNatClampNeg)] [] μ1
            refine run_ok (pc' := 47) [(.iload_n 3, 0, 0, 0)] _ _ _ _ (by decide +kernel) ?_
            show G Γ m_FB_kind (d + 1) (0, 0) Q 47 [.ref r0, .int x1, .int x2, .int (xI μ1 a4 x2.toNatClampNeg)] [.int (xI μ1 a4 x2.toNatClampNeg)] μ1
            exact g_reti (by decide +kernel) rfl h
          · replace h := h.1 hc
            show G Γ m_FB_kind (d + 1) (0, 0) Q 42 [.ref r0, .int x1, .int x2, .int (xI μ1 a4 x2.toNatClampNeg)] [] μ1
            refine run_ok (pc' := 47) [(.iconst (-1), 0, 0, 0), (.goto 4, 0, 0, 0)] _ _ _ _ (by decide +kernel) ?_
            show G Γ m_FB_kind (d + 1) (0, 0) Q 47 [.ref r0, .int x1, .int x2, .int (xI μ1 a4 x2.toNatClampNeg)] [.int (w (-1))] μ1
            exact g_reti (by decide +kernel) rfl h
      · replace h := h.1 hc
        show G Γ m_FB_kind (d + 1) (0, 0) Q 17 [.ref r0, .int x1, .int x2] [] μ1
        refine run_ok (pc' := 18) [(.iconst (-1), 0, 0, 0)] _ _ _ _ (by decide +kernel) ?_
        show G Γ m_FB_kind (d + 1) (0, 0) Q 18 [.ref r0, .int x1, .int x2] [.int (w (-1))] μ1
        exact g_reti (by decide +kernel) rfl h
/-! FrostBox law(I)Z -/
set_option maxRecDepth 100000 in
theorem B_FB_law_0 {Γ : XG} {d : Nat} {Q : Option Value → XM → Prop} {r0 : Nat} {x1 : Int32} {μ : XM} (o_r0_10 : ob μ r0 10) (h : ((x1 < w (-1) → Q (some (.int (w 0))) μ) ∧ (¬ x1 < w (-1) → ((x1 < xI μ r0 4 → ∀ μ1, μ1 = sI μ r0 5 x1 → Q (some (.int (w 1))) μ1) ∧ (¬ x1 < xI μ r0 4 → Q (some (.int (w 0))) μ))))) : G Γ m_FB_law (d + 1) (0, 0) Q 0 [.ref r0, .int x1] [] μ := by
  refine run_ok (pc' := 2) [(.iload_n 1, 0, 0, 0), (.iconst (-1), 0, 0, 0)] _ _ _ _ (by decide +kernel) ?_
  show G Γ m_FB_law (d + 1) (0, 0) Q 2 [.ref r0, .int x1] [.int (w (-1)), .int x1] μ
  refine g_icmp_lt (pc' := 13) (off := 11) (by decide) (by decide +kernel) (fun hc => ?_) (fun hc => ?_)
  · replace h := h.1 hc
    show G Γ m_FB_law (d + 1) (0, 0) Q 13 [.ref r0, .int x1] [] μ
    refine run_ok (pc' := 14) [(.iconst 0, 0, 0, 0)] _ _ _ _ (by decide +kernel) ?_
    show G Γ m_FB_law (d + 1) (0, 0) Q 14 [.ref r0, .int x1] [.int (w 0)] μ
    exact g_retz (by decide +kernel) rfl (Or.inl rfl) h
  · replace h := h.2 hc
    show G Γ m_FB_law (d + 1) (0, 0) Q 5 [.ref r0, .int x1] [] μ
    refine run_ok (pc' := 10) [(.iload_n 1, 0, 0, 0), (.aload_n 0, 0, 0, 0), (.getfield 134, 10, 4, 0)] _ _ _ _ (by decide +kernel) ?_
    show _ ∧ (_)
    refine ⟨o_r0_10, ?_⟩
    show G Γ m_FB_law (d + 1) (0, 0) Q 10 [.ref r0, .int x1] [.int (xI μ r0 4), .int x1] μ
    refine g_icmp_lt (pc' := 15) (off := 5) (by decide) (by decide +kernel) (fun hc => ?_) (fun hc => ?_)
    · replace h := h.1 hc
      show G Γ m_FB_law (d + 1) (0, 0) Q 15 [.ref r0, .int x1] [] μ
      refine run_ok (pc' := 20) [(.aload_n 0, 0, 0, 0), (.iload_n 1, 0, 0, 0), (.putfield 32, 10, 5, 0)] _ _ _ _ (by decide +kernel) ?_
      show _ ∧ (_)
      refine ⟨o_r0_10, ?_⟩
      show G Γ m_FB_law (d + 1) (0, 0) Q 20 [.ref r0, .int x1] [] (sI μ r0 5 x1)
      obtain ⟨μ1, em1⟩ : ∃ m : XM, m = sI μ r0 5 x1 := ⟨_, rfl⟩
      replace h := h μ1 em1
      have hm1 : xN μ ≤ xN μ1 := by rw [em1]; exact Nat.le_refl _
      rw [← em1]
      refine run_ok (pc' := 21) [(.iconst 1, 0, 0, 0)] _ _ _ _ (by decide +kernel) ?_
      show G Γ m_FB_law (d + 1) (0, 0) Q 21 [.ref r0, .int x1] [.int (w 1)] μ1
      exact g_retz (by decide +kernel) rfl (Or.inr rfl) h
    · replace h := h.2 hc
      show G Γ m_FB_law (d + 1) (0, 0) Q 13 [.ref r0, .int x1] [] μ
      refine run_ok (pc' := 14) [(.iconst 0, 0, 0, 0)] _ _ _ _ (by decide +kernel) ?_
      show G Γ m_FB_law (d + 1) (0, 0) Q 14 [.ref r0, .int x1] [.int (w 0)] μ
      exact g_retz (by decide +kernel) rfl (Or.inl rfl) h
/-! FrostBox habit(I)Z -/
set_option maxRecDepth 100000 in
theorem B_FB_habit_0 {Γ : XG} {d : Nat} {Q : Option Value → XM → Prop} {r0 : Nat} {x1 : Int32} {μ : XM} (o_r0_10 : ob μ r0 10) (h : ((x1 < w 0 → Q (some (.int (w 0))) μ) ∧ (¬ x1 < w 0 → ((w 9 < x1 → Q (some (.int (w 0))) μ) ∧ (¬ w 9 < x1 → ((x1 = xI μ r0 8 → Q (some (.int (w 0))) μ) ∧ (¬ x1 = xI μ r0 8 → ∀ μ1, μ1 = sI μ r0 8 x1 → Q (some (.int (w 1))) μ1))))))) : G Γ m_FB_habit (d + 1) (0, 0) Q 0 [.ref r0, .int x1] [] μ := by
  refine run_ok (pc' := 1) [(.iload_n 1, 0, 0, 0)] _ _ _ _ (by decide +kernel) ?_
  show G Γ m_FB_habit (d + 1) (0, 0) Q 1 [.ref r0, .int x1] [.int x1] μ
  refine g_ifz_lt (pc' := 18) (off := 17) (by decide) (by decide +kernel) (fun hc => ?_) (fun hc => ?_)
  · replace h := h.1 hc
    show G Γ m_FB_habit (d + 1) (0, 0) Q 18 [.ref r0, .int x1] [] μ
    refine run_ok (pc' := 19) [(.iconst 0, 0, 0, 0)] _ _ _ _ (by decide +kernel) ?_
    show G Γ m_FB_habit (d + 1) (0, 0) Q 19 [.ref r0, .int x1] [.int (w 0)] μ
    exact g_retz (by decide +kernel) rfl (Or.inl rfl) h
  · replace h := h.2 hc
    show G Γ m_FB_habit (d + 1) (0, 0) Q 4 [.ref r0, .int x1] [] μ
    refine run_ok (pc' := 7) [(.iload_n 1, 0, 0, 0), (.bipush 9, 0, 0, 0)] _ _ _ _ (by decide +kernel) ?_
    show G Γ m_FB_habit (d + 1) (0, 0) Q 7 [.ref r0, .int x1] [.int (w 9), .int x1] μ
    refine g_icmp_gt (pc' := 18) (off := 11) (by decide) (by decide +kernel) (fun hc => ?_) (fun hc => ?_)
    · replace h := h.1 hc
      show G Γ m_FB_habit (d + 1) (0, 0) Q 18 [.ref r0, .int x1] [] μ
      refine run_ok (pc' := 19) [(.iconst 0, 0, 0, 0)] _ _ _ _ (by decide +kernel) ?_
      show G Γ m_FB_habit (d + 1) (0, 0) Q 19 [.ref r0, .int x1] [.int (w 0)] μ
      exact g_retz (by decide +kernel) rfl (Or.inl rfl) h
    · replace h := h.2 hc
      show G Γ m_FB_habit (d + 1) (0, 0) Q 10 [.ref r0, .int x1] [] μ
      refine run_ok (pc' := 15) [(.iload_n 1, 0, 0, 0), (.aload_n 0, 0, 0, 0), (.getfield 42, 10, 8, 0)] _ _ _ _ (by decide +kernel) ?_
      show _ ∧ (_)
      refine ⟨o_r0_10, ?_⟩
      show G Γ m_FB_habit (d + 1) (0, 0) Q 15 [.ref r0, .int x1] [.int (xI μ r0 8), .int x1] μ
      refine g_icmp_ne (pc' := 20) (off := 5) (by decide) (by decide +kernel) (fun hc => ?_) (fun hc => ?_)
      · replace h := h.2 hc
        show G Γ m_FB_habit (d + 1) (0, 0) Q 20 [.ref r0, .int x1] [] μ
        refine run_ok (pc' := 25) [(.aload_n 0, 0, 0, 0), (.iload_n 1, 0, 0, 0), (.putfield 42, 10, 8, 0)] _ _ _ _ (by decide +kernel) ?_
        show _ ∧ (_)
        refine ⟨o_r0_10, ?_⟩
        show G Γ m_FB_habit (d + 1) (0, 0) Q 25 [.ref r0, .int x1] [] (sI μ r0 8 x1)
        obtain ⟨μ1, em1⟩ : ∃ m : XM, m = sI μ r0 8 x1 := ⟨_, rfl⟩
        replace h := h μ1 em1
        have hm1 : xN μ ≤ xN μ1 := by rw [em1]; exact Nat.le_refl _
        rw [← em1]
        refine run_ok (pc' := 26) [(.iconst 1, 0, 0, 0)] _ _ _ _ (by decide +kernel) ?_
        show G Γ m_FB_habit (d + 1) (0, 0) Q 26 [.ref r0, .int x1] [.int (w 1)] μ1
        exact g_retz (by decide +kernel) rfl (Or.inr rfl) h
      · replace h := h.1 hc
        show G Γ m_FB_habit (d + 1) (0, 0) Q 18 [.ref r0, .int x1] [] μ
        refine run_ok (pc' := 19) [(.iconst 0, 0, 0, 0)] _ _ _ _ (by decide +kernel) ?_
        show G Γ m_FB_habit (d + 1) (0, 0) Q 19 [.ref r0, .int x1] [.int (w 0)] μ
        exact g_retz (by decide +kernel) rfl (Or.inl rfl) h
/-! FrostBox portionWorth(LFrostBox$Pile;IIII)I -/
set_option maxRecDepth 100000 in
theorem lm_10_216 : Lk_maxI 10 216 := ⟨lwG_in (List.mem_of_getElem? (i := 748) rfl) rfl, lwG_in (List.mem_of_getElem? (i := 749) rfl) rfl, lwG_in (List.mem_of_getElem? (i := 130) rfl) rfl, lwG_in (List.mem_of_getElem? (i := 750) rfl) rfl⟩
set_option maxRecDepth 100000 in
theorem lm_10_203 : Lk_minI 10 203 := ⟨lwG_in (List.mem_of_getElem? (i := 732) rfl) rfl, lwG_in (List.mem_of_getElem? (i := 705) rfl) rfl, lwG_in (List.mem_of_getElem? (i := 130) rfl) rfl, lwG_in (List.mem_of_getElem? (i := 706) rfl) rfl⟩
set_option maxRecDepth 100000 in
theorem lk_10_212 : LkV 10 212 m_La_worth 6 := ⟨lc_La_worth, lwG_in (List.mem_of_getElem? (i := 733) rfl) rfl, lwG_in (List.mem_of_getElem? (i := 734) rfl) rfl, lwG_in (List.mem_of_getElem? (i := 735) rfl) rfl⟩
set_option maxRecDepth 100000 in
theorem B_FB_portionWorth_0 {Γ : XG} {d : Nat} {Q : Option Value → XM → Prop} {r0 r1 r1_0 r1_2 r0_1 r0_1_1 r0_3 r1_1 : Nat} {x2 x3 x4 x5 : Int32} {μ : XM} (o_r1_6 : ob μ r1 6) (e_r1_0 : xR μ r1 0 = some r1_0) (e_r1_2 : xR μ r1 2 = some r1_2) (o_r0_10 : ob μ r0 10) (e_r0_1 : xR μ r0 1 = some r0_1) (o_r0_1_1 : ob μ r0_1 1) (e_r0_1_1 : xR μ r0_1 1 = some r0_1_1) (e_r0_3 : xR μ r0 3 = some r0_3) (e_r1_1 : xR μ r1 1 = some r1_1) (h : inb μ 0 r1_0 x2 ∧ inb μ 0 r1_2 x2 ∧ inb μ 8 r0_1_1 (xI μ r1_0 x2.toNatClampNeg) ∧ ∃ a3, xR μ r0_1_1 (xI μ r1_0 x2.toNatClampNeg).toNatClampNeg = some a3 ∧ inb μ 0 a3 (w 2) ∧ ((xI μ r0 5 < w 0 → inb μ 8 r0_1_1 (xI μ r1_0 x2.toNatClampNeg) ∧ ∃ a5, xR μ r0_1_1 (xI μ r1_0 x2.toNatClampNeg).toNatClampNeg = some a5 ∧ inb μ 0 a5 (w 3) ∧ Q (some (.int (jmax (w 0) ((xI μ a5 (w 3).toNatClampNeg) - (jmax (w 0) (jmin (w 9) ((jmin (w 99) ((xI μ r1_2 x2.toNatClampNeg) + x3)) - (xI μ a3 (w 2).toNatClampNeg)))))))) μ) ∧ (¬ xI μ r0 5 < w 0 → ((xI μ r0 5 < xI μ r0 4 → inb μ 5 r0_3 (xI μ r0 5) ∧ ∃ a9, xR μ r0_3 (xI μ r0 5).toNatClampNeg = some a9 ∧ inb μ 0 r1_1 x2 ∧ ob μ a9 2 ∧ Call Γ m_La_worth d [.ref a9, .int (jmin (w 99) ((xI μ r1_2 x2.toNatClampNeg) + x3)), .int (xI μ a3 (w 2).toNatClampNeg), .int (xI μ r1_1 x2.toNatClampNeg), .int x5, .int (xI μ r1_0 x2.toNatClampNeg), .int ((xI μ r1 5) + x4)] μ (KI (fun v11 μ11 => xR μ11 r0 1 = some r0_1 ∧ xR μ11 r0_1 1 = some r0_1_1 ∧ inb μ11 8 r0_1_1 (xI μ r1_0 x2.toNatClampNeg) ∧ ∃ a14, xR μ11 r0_1_1 (xI μ r1_0 x2.toNatClampNeg).toNatClampNeg = some a14 ∧ inb μ11 0 a14 (w 3) ∧ Q (some (.int (jmax (w 0) ((xI μ11 a14 (w 3).toNatClampNeg) - (jmax (w 0) (jmin (w 9) v11)))))) μ11))) ∧ (¬ xI μ r0 5 < xI μ r0 4 → inb μ 8 r0_1_1 (xI μ r1_0 x2.toNatClampNeg) ∧ ∃ a7, xR μ r0_1_1 (xI μ r1_0 x2.toNatClampNeg).toNatClampNeg = some a7 ∧ inb μ 0 a7 (w 3) ∧ Q (some (.int (jmax (w 0) ((xI μ a7 (w 3).toNatClampNeg) - (jmax (w 0) (jmin (w 9) ((jmin (w 99) ((xI μ r1_2 x2.toNatClampNeg) + x3)) - (xI μ a3 (w 2).toNatClampNeg)))))))) μ))))) : G Γ m_FB_portionWorth (d + 1) (0, 0) Q 0 [.ref r0, .ref r1, .int x2, .int x3, .int x4, .int x5] [] μ := by
  obtain ⟨ib1, h⟩ := h
  obtain ⟨ib2, h⟩ := h
  refine run_ok (pc' := 18) [(.aload_n 1, 0, 0, 0), (.getfield 185, 6, 0, 2), (.iload_n 2, 0, 0, 0), (.iaload, 0, 0, 0), (.istore 6, 0, 0, 0), (.bipush 99, 0, 0, 0), (.aload_n 1, 0, 0, 0), (.getfield 190, 6, 2, 2), (.iload_n 2, 0, 0, 0), (.iaload, 0, 0, 0), (.iload_n 3, 0, 0, 0), (.iadd, 0, 0, 0)] _ _ _ _ (by decide +kernel) ?_
  show _ ∧ (∃ _, _ ∧ (_ ∧ (_ ∧ (∃ _, _ ∧ (_ ∧ (_))))))
  refine ⟨o_r1_6, r1_0, e_r1_0, ib1, o_r1_6, r1_2, e_r1_2, ib2, ?_⟩
  show G Γ m_FB_portionWorth (d + 1) (0, 0) Q 18 [.ref r0, .ref r1, .int x2, .int x3, .int x4, .int x5, .int (xI μ r1_0 x2.toNatClampNeg)] [.int ((xI μ r1_2 x2.toNatClampNeg) + x3), .int (w 99)] μ
  refine g_minI (i := 203) lm_10_203 (Nat.le_of_ble_eq_true rfl) (by decide +kernel) ?_
  show G Γ m_FB_portionWorth (d + 1) (0, 0) Q 21 [.ref r0, .ref r1, .int x2, .int x3, .int x4, .int x5, .int (xI μ r1_0 x2.toNatClampNeg)] [.int (jmin (w 99) ((xI μ r1_2 x2.toNatClampNeg) + x3))] μ
  obtain ⟨ib3, h⟩ := h
  obtain ⟨a3, ea3, h⟩ := h
  obtain ⟨ib4, h⟩ := h
  refine run_ok (pc' := 48) [(.istore 7, 0, 0, 0), (.aload_n 0, 0, 0, 0), (.getfield 19, 10, 1, 2), (.getfield 172, 1, 1, 2), (.iload 6, 0, 0, 0), (.aaload, 8, 0, 0), (.iconst 2, 0, 0, 0), (.iaload, 0, 0, 0), (.istore 8, 0, 0, 0), (.iload 7, 0, 0, 0), (.iload 8, 0, 0, 0), (.isub, 0, 0, 0), (.istore 9, 0, 0, 0), (.aload_n 0, 0, 0, 0), (.getfield 32, 10, 5, 0)] _ _ _ _ (by decide +kernel) ?_
  show _ ∧ (∃ _, _ ∧ (_ ∧ (∃ _, _ ∧ (_ ∧ (∃ _, _ ∧ (_ ∧ (_ ∧ (_))))))))
  refine ⟨o_r0_10, r0_1, e_r0_1, o_r0_1_1, r0_1_1, e_r0_1_1, ib3, a3, ea3, ib4, o_r0_10, ?_⟩
  show G Γ m_FB_portionWorth (d + 1) (0, 0) Q 48 [.ref r0, .ref r1, .int x2, .int x3, .int x4, .int x5, .int (xI μ r1_0 x2.toNatClampNeg), .int (jmin (w 99) ((xI μ r1_2 x2.toNatClampNeg) + x3)), .int (xI μ a3 (w 2).toNatClampNeg), .int ((jmin (w 99) ((xI μ r1_2 x2.toNatClampNeg) + x3)) - (xI μ a3 (w 2).toNatClampNeg))] [.int (xI μ r0 5)] μ
  refine g_ifz_lt (pc' := 97) (off := 49) (by decide) (by decide +kernel) (fun hc => ?_) (fun hc => ?_)
  · replace h := h.1 hc
    show G Γ m_FB_portionWorth (d + 1) (0, 0) Q 97 [.ref r0, .ref r1, .int x2, .int x3, .int x4, .int x5, .int (xI μ r1_0 x2.toNatClampNeg), .int (jmin (w 99) ((xI μ r1_2 x2.toNatClampNeg) + x3)), .int (xI μ a3 (w 2).toNatClampNeg), .int ((jmin (w 99) ((xI μ r1_2 x2.toNatClampNeg) + x3)) - (xI μ a3 (w 2).toNatClampNeg))] [] μ
    refine run_ok (pc' := 102) [(.iconst 0, 0, 0, 0), (.bipush 9, 0, 0, 0), (.iload 9, 0, 0, 0)] _ _ _ _ (by decide +kernel) ?_
    show G Γ m_FB_portionWorth (d + 1) (0, 0) Q 102 [.ref r0, .ref r1, .int x2, .int x3, .int x4, .int x5, .int (xI μ r1_0 x2.toNatClampNeg), .int (jmin (w 99) ((xI μ r1_2 x2.toNatClampNeg) + x3)), .int (xI μ a3 (w 2).toNatClampNeg), .int ((jmin (w 99) ((xI μ r1_2 x2.toNatClampNeg) + x3)) - (xI μ a3 (w 2).toNatClampNeg))] [.int ((jmin (w 99) ((xI μ r1_2 x2.toNatClampNeg) + x3)) - (xI μ a3 (w 2).toNatClampNeg)), .int (w 9), .int (w 0)] μ
    refine g_minI (i := 203) lm_10_203 (Nat.le_of_ble_eq_true rfl) (by decide +kernel) ?_
    show G Γ m_FB_portionWorth (d + 1) (0, 0) Q 105 [.ref r0, .ref r1, .int x2, .int x3, .int x4, .int x5, .int (xI μ r1_0 x2.toNatClampNeg), .int (jmin (w 99) ((xI μ r1_2 x2.toNatClampNeg) + x3)), .int (xI μ a3 (w 2).toNatClampNeg), .int ((jmin (w 99) ((xI μ r1_2 x2.toNatClampNeg) + x3)) - (xI μ a3 (w 2).toNatClampNeg))] [.int (jmin (w 9) ((jmin (w 99) ((xI μ r1_2 x2.toNatClampNeg) + x3)) - (xI μ a3 (w 2).toNatClampNeg))), .int (w 0)] μ
    refine g_maxI (i := 216) lm_10_216 (Nat.le_of_ble_eq_true rfl) (by decide +kernel) ?_
    show G Γ m_FB_portionWorth (d + 1) (0, 0) Q 108 [.ref r0, .ref r1, .int x2, .int x3, .int x4, .int x5, .int (xI μ r1_0 x2.toNatClampNeg), .int (jmin (w 99) ((xI μ r1_2 x2.toNatClampNeg) + x3)), .int (xI μ a3 (w 2).toNatClampNeg), .int ((jmin (w 99) ((xI μ r1_2 x2.toNatClampNeg) + x3)) - (xI μ a3 (w 2).toNatClampNeg))] [.int (jmax (w 0) (jmin (w 9) ((jmin (w 99) ((xI μ r1_2 x2.toNatClampNeg) + x3)) - (xI μ a3 (w 2).toNatClampNeg))))] μ
    obtain ⟨ib5, h⟩ := h
    obtain ⟨a5, ea5, h⟩ := h
    obtain ⟨ib6, h⟩ := h
    refine run_ok (pc' := 126) [(.istore 9, 0, 0, 0), (.iconst 0, 0, 0, 0), (.aload_n 0, 0, 0, 0), (.getfield 19, 10, 1, 2), (.getfield 172, 1, 1, 2), (.iload 6, 0, 0, 0), (.aaload, 8, 0, 0), (.iconst 3, 0, 0, 0), (.iaload, 0, 0, 0), (.iload 9, 0, 0, 0), (.isub, 0, 0, 0)] _ _ _ _ (by decide +kernel) ?_
    show _ ∧ (∃ _, _ ∧ (_ ∧ (∃ _, _ ∧ (_ ∧ (∃ _, _ ∧ (_ ∧ (_)))))))
    refine ⟨o_r0_10, r0_1, e_r0_1, o_r0_1_1, r0_1_1, e_r0_1_1, ib5, a5, ea5, ib6, ?_⟩
    show G Γ m_FB_portionWorth (d + 1) (0, 0) Q 126 [.ref r0, .ref r1, .int x2, .int x3, .int x4, .int x5, .int (xI μ r1_0 x2.toNatClampNeg), .int (jmin (w 99) ((xI μ r1_2 x2.toNatClampNeg) + x3)), .int (xI μ a3 (w 2).toNatClampNeg), .int (jmax (w 0) (jmin (w 9) ((jmin (w 99) ((xI μ r1_2 x2.toNatClampNeg) + x3)) - (xI μ a3 (w 2).toNatClampNeg))))] [.int ((xI μ a5 (w 3).toNatClampNeg) - (jmax (w 0) (jmin (w 9) ((jmin (w 99) ((xI μ r1_2 x2.toNatClampNeg) + x3)) - (xI μ a3 (w 2).toNatClampNeg))))), .int (w 0)] μ
    refine g_maxI (i := 216) lm_10_216 (Nat.le_of_ble_eq_true rfl) (by decide +kernel) ?_
    show G Γ m_FB_portionWorth (d + 1) (0, 0) Q 129 [.ref r0, .ref r1, .int x2, .int x3, .int x4, .int x5, .int (xI μ r1_0 x2.toNatClampNeg), .int (jmin (w 99) ((xI μ r1_2 x2.toNatClampNeg) + x3)), .int (xI μ a3 (w 2).toNatClampNeg), .int (jmax (w 0) (jmin (w 9) ((jmin (w 99) ((xI μ r1_2 x2.toNatClampNeg) + x3)) - (xI μ a3 (w 2).toNatClampNeg))))] [.int (jmax (w 0) ((xI μ a5 (w 3).toNatClampNeg) - (jmax (w 0) (jmin (w 9) ((jmin (w 99) ((xI μ r1_2 x2.toNatClampNeg) + x3)) - (xI μ a3 (w 2).toNatClampNeg))))))] μ
    exact g_reti (by decide +kernel) rfl h
  · replace h := h.2 hc
    show G Γ m_FB_portionWorth (d + 1) (0, 0) Q 51 [.ref r0, .ref r1, .int x2, .int x3, .int x4, .int x5, .int (xI μ r1_0 x2.toNatClampNeg), .int (jmin (w 99) ((xI μ r1_2 x2.toNatClampNeg) + x3)), .int (xI μ a3 (w 2).toNatClampNeg), .int ((jmin (w 99) ((xI μ r1_2 x2.toNatClampNeg) + x3)) - (xI μ a3 (w 2).toNatClampNeg))] [] μ
    refine run_ok (pc' := 59) [(.aload_n 0, 0, 0, 0), (.getfield 32, 10, 5, 0), (.aload_n 0, 0, 0, 0), (.getfield 134, 10, 4, 0)] _ _ _ _ (by decide +kernel) ?_
    show _ ∧ (_ ∧ (_))
    refine ⟨o_r0_10, o_r0_10, ?_⟩
    show G Γ m_FB_portionWorth (d + 1) (0, 0) Q 59 [.ref r0, .ref r1, .int x2, .int x3, .int x4, .int x5, .int (xI μ r1_0 x2.toNatClampNeg), .int (jmin (w 99) ((xI μ r1_2 x2.toNatClampNeg) + x3)), .int (xI μ a3 (w 2).toNatClampNeg), .int ((jmin (w 99) ((xI μ r1_2 x2.toNatClampNeg) + x3)) - (xI μ a3 (w 2).toNatClampNeg))] [.int (xI μ r0 4), .int (xI μ r0 5)] μ
    refine g_icmp_ge (pc' := 97) (off := 38) (by decide) (by decide +kernel) (fun hc => ?_) (fun hc => ?_)
    · replace h := h.2 hc
      show G Γ m_FB_portionWorth (d + 1) (0, 0) Q 97 [.ref r0, .ref r1, .int x2, .int x3, .int x4, .int x5, .int (xI μ r1_0 x2.toNatClampNeg), .int (jmin (w 99) ((xI μ r1_2 x2.toNatClampNeg) + x3)), .int (xI μ a3 (w 2).toNatClampNeg), .int ((jmin (w 99) ((xI μ r1_2 x2.toNatClampNeg) + x3)) - (xI μ a3 (w 2).toNatClampNeg))] [] μ
      refine run_ok (pc' := 102) [(.iconst 0, 0, 0, 0), (.bipush 9, 0, 0, 0), (.iload 9, 0, 0, 0)] _ _ _ _ (by decide +kernel) ?_
      show G Γ m_FB_portionWorth (d + 1) (0, 0) Q 102 [.ref r0, .ref r1, .int x2, .int x3, .int x4, .int x5, .int (xI μ r1_0 x2.toNatClampNeg), .int (jmin (w 99) ((xI μ r1_2 x2.toNatClampNeg) + x3)), .int (xI μ a3 (w 2).toNatClampNeg), .int ((jmin (w 99) ((xI μ r1_2 x2.toNatClampNeg) + x3)) - (xI μ a3 (w 2).toNatClampNeg))] [.int ((jmin (w 99) ((xI μ r1_2 x2.toNatClampNeg) + x3)) - (xI μ a3 (w 2).toNatClampNeg)), .int (w 9), .int (w 0)] μ
      refine g_minI (i := 203) lm_10_203 (Nat.le_of_ble_eq_true rfl) (by decide +kernel) ?_
      show G Γ m_FB_portionWorth (d + 1) (0, 0) Q 105 [.ref r0, .ref r1, .int x2, .int x3, .int x4, .int x5, .int (xI μ r1_0 x2.toNatClampNeg), .int (jmin (w 99) ((xI μ r1_2 x2.toNatClampNeg) + x3)), .int (xI μ a3 (w 2).toNatClampNeg), .int ((jmin (w 99) ((xI μ r1_2 x2.toNatClampNeg) + x3)) - (xI μ a3 (w 2).toNatClampNeg))] [.int (jmin (w 9) ((jmin (w 99) ((xI μ r1_2 x2.toNatClampNeg) + x3)) - (xI μ a3 (w 2).toNatClampNeg))), .int (w 0)] μ
      refine g_maxI (i := 216) lm_10_216 (Nat.le_of_ble_eq_true rfl) (by decide +kernel) ?_
      show G Γ m_FB_portionWorth (d + 1) (0, 0) Q 108 [.ref r0, .ref r1, .int x2, .int x3, .int x4, .int x5, .int (xI μ r1_0 x2.toNatClampNeg), .int (jmin (w 99) ((xI μ r1_2 x2.toNatClampNeg) + x3)), .int (xI μ a3 (w 2).toNatClampNeg), .int ((jmin (w 99) ((xI μ r1_2 x2.toNatClampNeg) + x3)) - (xI μ a3 (w 2).toNatClampNeg))] [.int (jmax (w 0) (jmin (w 9) ((jmin (w 99) ((xI μ r1_2 x2.toNatClampNeg) + x3)) - (xI μ a3 (w 2).toNatClampNeg))))] μ
      obtain ⟨ib7, h⟩ := h
      obtain ⟨a7, ea7, h⟩ := h
      obtain ⟨ib8, h⟩ := h
      refine run_ok (pc' := 126) [(.istore 9, 0, 0, 0), (.iconst 0, 0, 0, 0), (.aload_n 0, 0, 0, 0), (.getfield 19, 10, 1, 2), (.getfield 172, 1, 1, 2), (.iload 6, 0, 0, 0), (.aaload, 8, 0, 0), (.iconst 3, 0, 0, 0), (.iaload, 0, 0, 0), (.iload 9, 0, 0, 0), (.isub, 0, 0, 0)] _ _ _ _ (by decide +kernel) ?_
      show _ ∧ (∃ _, _ ∧ (_ ∧ (∃ _, _ ∧ (_ ∧ (∃ _, _ ∧ (_ ∧ (_)))))))
      refine ⟨o_r0_10, r0_1, e_r0_1, o_r0_1_1, r0_1_1, e_r0_1_1, ib7, a7, ea7, ib8, ?_⟩
      show G Γ m_FB_portionWorth (d + 1) (0, 0) Q 126 [.ref r0, .ref r1, .int x2, .int x3, .int x4, .int x5, .int (xI μ r1_0 x2.toNatClampNeg), .int (jmin (w 99) ((xI μ r1_2 x2.toNatClampNeg) + x3)), .int (xI μ a3 (w 2).toNatClampNeg), .int (jmax (w 0) (jmin (w 9) ((jmin (w 99) ((xI μ r1_2 x2.toNatClampNeg) + x3)) - (xI μ a3 (w 2).toNatClampNeg))))] [.int ((xI μ a7 (w 3).toNatClampNeg) - (jmax (w 0) (jmin (w 9) ((jmin (w 99) ((xI μ r1_2 x2.toNatClampNeg) + x3)) - (xI μ a3 (w 2).toNatClampNeg))))), .int (w 0)] μ
      refine g_maxI (i := 216) lm_10_216 (Nat.le_of_ble_eq_true rfl) (by decide +kernel) ?_
      show G Γ m_FB_portionWorth (d + 1) (0, 0) Q 129 [.ref r0, .ref r1, .int x2, .int x3, .int x4, .int x5, .int (xI μ r1_0 x2.toNatClampNeg), .int (jmin (w 99) ((xI μ r1_2 x2.toNatClampNeg) + x3)), .int (xI μ a3 (w 2).toNatClampNeg), .int (jmax (w 0) (jmin (w 9) ((jmin (w 99) ((xI μ r1_2 x2.toNatClampNeg) + x3)) - (xI μ a3 (w 2).toNatClampNeg))))] [.int (jmax (w 0) ((xI μ a7 (w 3).toNatClampNeg) - (jmax (w 0) (jmin (w 9) ((jmin (w 99) ((xI μ r1_2 x2.toNatClampNeg) + x3)) - (xI μ a3 (w 2).toNatClampNeg))))))] μ
      exact g_reti (by decide +kernel) rfl h
    · replace h := h.1 hc
      show G Γ m_FB_portionWorth (d + 1) (0, 0) Q 62 [.ref r0, .ref r1, .int x2, .int x3, .int x4, .int x5, .int (xI μ r1_0 x2.toNatClampNeg), .int (jmin (w 99) ((xI μ r1_2 x2.toNatClampNeg) + x3)), .int (xI μ a3 (w 2).toNatClampNeg), .int ((jmin (w 99) ((xI μ r1_2 x2.toNatClampNeg) + x3)) - (xI μ a3 (w 2).toNatClampNeg))] [] μ
      obtain ⟨ib9, h⟩ := h
      obtain ⟨a9, ea9, h⟩ := h
      obtain ⟨ib10, h⟩ := h
      refine run_ok (pc' := 92) [(.aload_n 0, 0, 0, 0), (.getfield 28, 10, 3, 2), (.aload_n 0, 0, 0, 0), (.getfield 32, 10, 5, 0), (.aaload, 5, 0, 0), (.iload 7, 0, 0, 0), (.iload 8, 0, 0, 0), (.aload_n 1, 0, 0, 0), (.getfield 187, 6, 1, 2), (.iload_n 2, 0, 0, 0), (.iaload, 0, 0, 0), (.iload 5, 0, 0, 0), (.iload 6, 0, 0, 0), (.aload_n 1, 0, 0, 0), (.getfield 209, 6, 5, 0), (.iload 4, 0, 0, 0), (.iadd, 0, 0, 0)] _ _ _ _ (by decide +kernel) ?_
      show _ ∧ (∃ _, _ ∧ (_ ∧ (_ ∧ (∃ _, _ ∧ (_ ∧ (∃ _, _ ∧ (_ ∧ (_ ∧ (_)))))))))
      refine ⟨o_r0_10, r0_3, e_r0_3, o_r0_10, ib9, a9, ea9, o_r1_6, r1_1, e_r1_1, ib10, o_r1_6, ?_⟩
      show G Γ m_FB_portionWorth (d + 1) (0, 0) Q 92 [.ref r0, .ref r1, .int x2, .int x3, .int x4, .int x5, .int (xI μ r1_0 x2.toNatClampNeg), .int (jmin (w 99) ((xI μ r1_2 x2.toNatClampNeg) + x3)), .int (xI μ a3 (w 2).toNatClampNeg), .int ((jmin (w 99) ((xI μ r1_2 x2.toNatClampNeg) + x3)) - (xI μ a3 (w 2).toNatClampNeg))] [.int ((xI μ r1 5) + x4), .int (xI μ r1_0 x2.toNatClampNeg), .int x5, .int (xI μ r1_1 x2.toNatClampNeg), .int (xI μ a3 (w 2).toNatClampNeg), .int (jmin (w 99) ((xI μ r1_2 x2.toNatClampNeg) + x3)), .ref a9] μ
      obtain ⟨o_a9_2, h⟩ := h
      refine g_invV (M' := m_La_worth) (b1 := 0) (b2 := 0) (As := [.int (jmin (w 99) ((xI μ r1_2 x2.toNatClampNeg) + x3)), .int (xI μ a3 (w 2).toNatClampNeg), .int (xI μ r1_1 x2.toNatClampNeg), .int x5, .int (xI μ r1_0 x2.toNatClampNeg), .int ((xI μ r1 5) + x4)]) (a := a9) (st := []) lk_10_212 (by decide +kernel) rfl (dk_La_worth d) (Nat.le_of_ble_eq_true rfl) (Or.inl ⟨2, o_a9_2, rfl⟩) h ?_
      rintro _ μ11 ⟨v11, rfl, h⟩ hn11
      show G Γ m_FB_portionWorth (d + 1) (0, 0) Q 95 [.ref r0, .ref r1, .int x2, .int x3, .int x4, .int x5, .int (xI μ r1_0 x2.toNatClampNeg), .int (jmin (w 99) ((xI μ r1_2 x2.toNatClampNeg) + x3)), .int (xI μ a3 (w 2).toNatClampNeg), .int ((jmin (w 99) ((xI μ r1_2 x2.toNatClampNeg) + x3)) - (xI μ a3 (w 2).toNatClampNeg))] [.int v11] μ11
      refine run_ok (pc' := 102) [(.istore 9, 0, 0, 0), (.iconst 0, 0, 0, 0), (.bipush 9, 0, 0, 0), (.iload 9, 0, 0, 0)] _ _ _ _ (by decide +kernel) ?_
      show G Γ m_FB_portionWorth (d + 1) (0, 0) Q 102 [.ref r0, .ref r1, .int x2, .int x3, .int x4, .int x5, .int (xI μ r1_0 x2.toNatClampNeg), .int (jmin (w 99) ((xI μ r1_2 x2.toNatClampNeg) + x3)), .int (xI μ a3 (w 2).toNatClampNeg), .int v11] [.int v11, .int (w 9), .int (w 0)] μ11
      refine g_minI (i := 203) lm_10_203 (Nat.le_of_ble_eq_true rfl) (by decide +kernel) ?_
      show G Γ m_FB_portionWorth (d + 1) (0, 0) Q 105 [.ref r0, .ref r1, .int x2, .int x3, .int x4, .int x5, .int (xI μ r1_0 x2.toNatClampNeg), .int (jmin (w 99) ((xI μ r1_2 x2.toNatClampNeg) + x3)), .int (xI μ a3 (w 2).toNatClampNeg), .int v11] [.int (jmin (w 9) v11), .int (w 0)] μ11
      refine g_maxI (i := 216) lm_10_216 (Nat.le_of_ble_eq_true rfl) (by decide +kernel) ?_
      show G Γ m_FB_portionWorth (d + 1) (0, 0) Q 108 [.ref r0, .ref r1, .int x2, .int x3, .int x4, .int x5, .int (xI μ r1_0 x2.toNatClampNeg), .int (jmin (w 99) ((xI μ r1_2 x2.toNatClampNeg) + x3)), .int (xI μ a3 (w 2).toNatClampNeg), .int v11] [.int (jmax (w 0) (jmin (w 9) v11))] μ11
      obtain ⟨ea12, h⟩ := h
      obtain ⟨ea13, h⟩ := h
      obtain ⟨ib14, h⟩ := h
      obtain ⟨a14, ea14, h⟩ := h
      obtain ⟨ib15, h⟩ := h
      refine run_ok (pc' := 126) [(.istore 9, 0, 0, 0), (.iconst 0, 0, 0, 0), (.aload_n 0, 0, 0, 0), (.getfield 19, 10, 1, 2), (.getfield 172, 1, 1, 2), (.iload 6, 0, 0, 0), (.aaload, 8, 0, 0), (.iconst 3, 0, 0, 0), (.iaload, 0, 0, 0), (.iload 9, 0, 0, 0), (.isub, 0, 0, 0)] _ _ _ _ (by decide +kernel) ?_
      show _ ∧ (∃ _, _ ∧ (_ ∧ (∃ _, _ ∧ (_ ∧ (∃ _, _ ∧ (_ ∧ (_)))))))
      refine ⟨((o_r0_10).mono hn11), r0_1, ea12, ((o_r0_1_1).mono hn11), r0_1_1, ea13, ib14, a14, ea14, ib15, ?_⟩
      show G Γ m_FB_portionWorth (d + 1) (0, 0) Q 126 [.ref r0, .ref r1, .int x2, .int x3, .int x4, .int x5, .int (xI μ r1_0 x2.toNatClampNeg), .int (jmin (w 99) ((xI μ r1_2 x2.toNatClampNeg) + x3)), .int (xI μ a3 (w 2).toNatClampNeg), .int (jmax (w 0) (jmin (w 9) v11))] [.int ((xI μ11 a14 (w 3).toNatClampNeg) - (jmax (w 0) (jmin (w 9) v11))), .int (w 0)] μ11
      refine g_maxI (i := 216) lm_10_216 (Nat.le_of_ble_eq_true rfl) (by decide +kernel) ?_
      show G Γ m_FB_portionWorth (d + 1) (0, 0) Q 129 [.ref r0, .ref r1, .int x2, .int x3, .int x4, .int x5, .int (xI μ r1_0 x2.toNatClampNeg), .int (jmin (w 99) ((xI μ r1_2 x2.toNatClampNeg) + x3)), .int (xI μ a3 (w 2).toNatClampNeg), .int (jmax (w 0) (jmin (w 9) v11))] [.int (jmax (w 0) ((xI μ11 a14 (w 3).toNatClampNeg) - (jmax (w 0) (jmin (w 9) v11))))] μ11
      exact g_reti (by decide +kernel) rfl h
/-! FrostBox valueThen(LFrostBox$Pile;IIII)I -/
set_option maxRecDepth 100000 in
theorem lk_10_219 : LkV 10 219 m_FB_portionWorth 5 := ⟨lc_FB_portionWorth, lwG_in (List.mem_of_getElem? (i := 728) rfl) rfl, lwG_in (List.mem_of_getElem? (i := 730) rfl) rfl, lwG_in (List.mem_of_getElem? (i := 25) rfl) rfl⟩
set_option maxRecDepth 100000 in
theorem B_FB_valueThen_0 {Γ : XG} {d : Nat} {Q : Option Value → XM → Prop} {r0 r1 r1_1 : Nat} {x2 x3 x4 x5 : Int32} {μ : XM} (o_r1_6 : ob μ r1 6) (e_r1_1 : xR μ r1 1 = some r1_1) (o_r0_10 : ob μ r0 10) (h : inb μ 0 r1_1 x2 ∧ Call Γ m_FB_portionWorth d [.ref r0, .ref r1, .int x2, .int x3, .int x4, .int x5] μ (KI (fun v2 μ2 => Q (some (.int ((xI μ r1_1 x2.toNatClampNeg) * v2))) μ2))) : G Γ m_FB_valueThen (d + 1) (0, 0) Q 0 [.ref r0, .ref r1, .int x2, .int x3, .int x4, .int x5] [] μ := by
  obtain ⟨ib1, h⟩ := h
  refine run_ok (pc' := 14) [(.aload_n 1, 0, 0, 0), (.getfield 187, 6, 1, 2), (.iload_n 2, 0, 0, 0), (.iaload, 0, 0, 0), (.aload_n 0, 0, 0, 0), (.aload_n 1, 0, 0, 0), (.iload_n 2, 0, 0, 0), (.iload_n 3, 0, 0, 0), (.iload 4, 0, 0, 0), (.iload 5, 0, 0, 0)] _ _ _ _ (by decide +kernel) ?_
  show _ ∧ (∃ _, _ ∧ (_ ∧ (_)))
  refine ⟨o_r1_6, r1_1, e_r1_1, ib1, ?_⟩
  show G Γ m_FB_valueThen (d + 1) (0, 0) Q 14 [.ref r0, .ref r1, .int x2, .int x3, .int x4, .int x5] [.int x5, .int x4, .int x3, .int x2, .ref r1, .ref r0, .int (xI μ r1_1 x2.toNatClampNeg)] μ
  refine g_invV (M' := m_FB_portionWorth) (b1 := 0) (b2 := 0) (As := [.ref r1, .int x2, .int x3, .int x4, .int x5]) (a := r0) (st := [.int (xI μ r1_1 x2.toNatClampNeg)]) lk_10_219 (by decide +kernel) rfl (dk_FB_portionWorth d) (Nat.le_of_ble_eq_true rfl) (Or.inl ⟨10, o_r0_10, rfl⟩) h ?_
  rintro _ μ2 ⟨v2, rfl, h⟩ hn2
  show G Γ m_FB_valueThen (d + 1) (0, 0) Q 17 [.ref r0, .ref r1, .int x2, .int x3, .int x4, .int x5] [.int v2, .int (xI μ r1_1 x2.toNatClampNeg)] μ2
  refine run_ok (pc' := 18) [(.imul, 0, 0, 0)] _ _ _ _ (by decide +kernel) ?_
  show G Γ m_FB_valueThen (d + 1) (0, 0) Q 18 [.ref r0, .ref r1, .int x2, .int x3, .int x4, .int x5] [.int ((xI μ r1_1 x2.toNatClampNeg) * v2)] μ2
  exact g_reti (by decide +kernel) rfl h
/-! FrostBox valueOf(LFrostBox$Pile;I)I -/
set_option maxRecDepth 100000 in
theorem B_FB_valueOf_0 {Γ : XG} {d : Nat} {Q : Option Value → XM → Prop} {r0 r1 r1_1 : Nat} {x2 : Int32} {μ : XM} (o_r1_6 : ob μ r1 6) (e_r1_1 : xR μ r1 1 = some r1_1) (o_r0_10 : ob μ r0 10) (h : inb μ 0 r1_1 x2 ∧ Call Γ m_FB_portionWorth d [.ref r0, .ref r1, .int x2, .int (w 0), .int (w 0), .int x2] μ (KI (fun v2 μ2 => Q (some (.int ((xI μ r1_1 x2.toNatClampNeg) * v2))) μ2))) : G Γ m_FB_valueOf (d + 1) (0, 0) Q 0 [.ref r0, .ref r1, .int x2] [] μ := by
  obtain ⟨ib1, h⟩ := h
  refine run_ok (pc' := 12) [(.aload_n 1, 0, 0, 0), (.getfield 187, 6, 1, 2), (.iload_n 2, 0, 0, 0), (.iaload, 0, 0, 0), (.aload_n 0, 0, 0, 0), (.aload_n 1, 0, 0, 0), (.iload_n 2, 0, 0, 0), (.iconst 0, 0, 0, 0), (.iconst 0, 0, 0, 0), (.iload_n 2, 0, 0, 0)] _ _ _ _ (by decide +kernel) ?_
  show _ ∧ (∃ _, _ ∧ (_ ∧ (_)))
  refine ⟨o_r1_6, r1_1, e_r1_1, ib1, ?_⟩
  show G Γ m_FB_valueOf (d + 1) (0, 0) Q 12 [.ref r0, .ref r1, .int x2] [.int x2, .int (w 0), .int (w 0), .int x2, .ref r1, .ref r0, .int (xI μ r1_1 x2.toNatClampNeg)] μ
  refine g_invV (M' := m_FB_portionWorth) (b1 := 0) (b2 := 0) (As := [.ref r1, .int x2, .int (w 0), .int (w 0), .int x2]) (a := r0) (st := [.int (xI μ r1_1 x2.toNatClampNeg)]) lk_10_219 (by decide +kernel) rfl (dk_FB_portionWorth d) (Nat.le_of_ble_eq_true rfl) (Or.inl ⟨10, o_r0_10, rfl⟩) h ?_
  rintro _ μ2 ⟨v2, rfl, h⟩ hn2
  show G Γ m_FB_valueOf (d + 1) (0, 0) Q 15 [.ref r0, .ref r1, .int x2] [.int v2, .int (xI μ r1_1 x2.toNatClampNeg)] μ2
  refine run_ok (pc' := 16) [(.imul, 0, 0, 0)] _ _ _ _ (by decide +kernel) ?_
  show G Γ m_FB_valueOf (d + 1) (0, 0) Q 16 [.ref r0, .ref r1, .int x2] [.int ((xI μ r1_1 x2.toNatClampNeg) * v2)] μ2
  exact g_reti (by decide +kernel) rfl h
/-! FrostBox valueOfAll(II)I -/
set_option maxRecDepth 100000 in
theorem lk_10_224 : LkV 10 224 m_FB_valueThen 5 := ⟨lc_FB_valueThen, lwG_in (List.mem_of_getElem? (i := 938) rfl) rfl, lwG_in (List.mem_of_getElem? (i := 940) rfl) rfl, lwG_in (List.mem_of_getElem? (i := 40) rfl) rfl⟩
set_option maxRecDepth 100000 in
theorem B_FB_valueOfAll_0 {Γ : XG} {d : Nat} {Q : Option Value → XM → Prop} {r0 : Nat} {x1 x2 : Int32} {μ : XM}  (h : G Γ m_FB_valueOfAll (d + 1) (0, 0) Q 5 [.ref r0, .int x1, .int x2, .int (w 0), .int (w 0)] [] μ) : G Γ m_FB_valueOfAll (d + 1) (0, 0) Q 0 [.ref r0, .int x1, .int x2] [] μ := by
  refine run_ok (pc' := 5) [(.iconst 0, 0, 0, 0), (.istore_n 3, 0, 0, 0), (.iconst 0, 0, 0, 0), (.istore 4, 0, 0, 0)] _ _ _ _ (by decide +kernel) ?_
  show G Γ m_FB_valueOfAll (d + 1) (0, 0) Q 5 [.ref r0, .int x1, .int x2, .int (w 0), .int (w 0)] [] μ
  exact h
set_option maxRecDepth 100000 in
theorem B_FB_valueOfAll_5 {Γ : XG} {d : Nat} {Q : Option Value → XM → Prop} {r0 r0_9 : Nat} {x1 x2 x3 x4 : Int32} {μ : XM} (o_r0_10 : ob μ r0 10) (e_r0_9 : xR μ r0 9 = some r0_9) (o_r0_9_6 : ob μ r0_9 6) (h : ((x4 < xI μ r0_9 4 → Call Γ m_FB_valueThen d [.ref r0, .ref r0_9, .int x4, .int x1, .int x2, .int x4] μ (KI (fun v1 μ1 => G Γ m_FB_valueOfAll (d + 1) (0, 0) Q 5 [.ref r0, .int x1, .int x2, .int (x3 + v1), .int (x4 + w 1)] [] μ1))) ∧ (¬ x4 < xI μ r0_9 4 → Q (some (.int x3)) μ))) : G Γ m_FB_valueOfAll (d + 1) (0, 0) Q 5 [.ref r0, .int x1, .int x2, .int x3, .int x4] [] μ := by
  refine run_ok (pc' := 14) [(.iload 4, 0, 0, 0), (.aload_n 0, 0, 0, 0), (.getfield 48, 10, 9, 2), (.getfield 223, 6, 4, 0)] _ _ _ _ (by decide +kernel) ?_
  show _ ∧ (∃ _, _ ∧ (_ ∧ (_)))
  refine ⟨o_r0_10, r0_9, e_r0_9, o_r0_9_6, ?_⟩
  show G Γ m_FB_valueOfAll (d + 1) (0, 0) Q 14 [.ref r0, .int x1, .int x2, .int x3, .int x4] [.int (xI μ r0_9 4), .int x4] μ
  refine g_icmp_ge (pc' := 40) (off := 26) (by decide) (by decide +kernel) (fun hc => ?_) (fun hc => ?_)
  · replace h := h.2 hc
    show G Γ m_FB_valueOfAll (d + 1) (0, 0) Q 40 [.ref r0, .int x1, .int x2, .int x3, .int x4] [] μ
    refine run_ok (pc' := 41) [(.iload_n 3, 0, 0, 0)] _ _ _ _ (by decide +kernel) ?_
    show G Γ m_FB_valueOfAll (d + 1) (0, 0) Q 41 [.ref r0, .int x1, .int x2, .int x3, .int x4] [.int x3] μ
    exact g_reti (by decide +kernel) rfl h
  · replace h := h.1 hc
    show G Γ m_FB_valueOfAll (d + 1) (0, 0) Q 17 [.ref r0, .int x1, .int x2, .int x3, .int x4] [] μ
    refine run_ok (pc' := 29) [(.iload_n 3, 0, 0, 0), (.aload_n 0, 0, 0, 0), (.aload_n 0, 0, 0, 0), (.getfield 48, 10, 9, 2), (.iload 4, 0, 0, 0), (.iload_n 1, 0, 0, 0), (.iload_n 2, 0, 0, 0), (.iload 4, 0, 0, 0)] _ _ _ _ (by decide +kernel) ?_
    show _ ∧ (∃ _, _ ∧ (_))
    refine ⟨o_r0_10, r0_9, e_r0_9, ?_⟩
    show G Γ m_FB_valueOfAll (d + 1) (0, 0) Q 29 [.ref r0, .int x1, .int x2, .int x3, .int x4] [.int x4, .int x2, .int x1, .int x4, .ref r0_9, .ref r0, .int x3] μ
    refine g_invV (M' := m_FB_valueThen) (b1 := 0) (b2 := 0) (As := [.ref r0_9, .int x4, .int x1, .int x2, .int x4]) (a := r0) (st := [.int x3]) lk_10_224 (by decide +kernel) rfl (dk_FB_valueThen d) (Nat.le_of_ble_eq_true rfl) (Or.inl ⟨10, o_r0_10, rfl⟩) h ?_
    rintro _ μ1 ⟨v1, rfl, h⟩ hn1
    show G Γ m_FB_valueOfAll (d + 1) (0, 0) Q 32 [.ref r0, .int x1, .int x2, .int x3, .int x4] [.int v1, .int x3] μ1
    refine run_ok (pc' := 5) [(.iadd, 0, 0, 0), (.istore_n 3, 0, 0, 0), (.iinc 4 1, 0, 0, 0), (.goto (-32), 0, 0, 0)] _ _ _ _ (by decide +kernel) ?_
    show G Γ m_FB_valueOfAll (d + 1) (0, 0) Q 5 [.ref r0, .int x1, .int x2, .int (x3 + v1), .int (x4 + w 1)] [] μ1
    exact h
/-! FrostBox fillValues()V -/
set_option maxRecDepth 100000 in
theorem lk_10_196 : LkV 10 196 m_FB_valueOf 2 := ⟨lc_FB_valueOf, lwG_in (List.mem_of_getElem? (i := 724) rfl) rfl, lwG_in (List.mem_of_getElem? (i := 726) rfl) rfl, lwG_in (List.mem_of_getElem? (i := 24) rfl) rfl⟩
set_option maxRecDepth 100000 in
theorem lk_10_182 : LkV 10 182 m_Pi_indexOf 1 := ⟨lc_Pi_indexOf, lwG_in (List.mem_of_getElem? (i := 716) rfl) rfl, lwG_in (List.mem_of_getElem? (i := 717) rfl) rfl, lwG_in (List.mem_of_getElem? (i := 718) rfl) rfl⟩
set_option maxRecDepth 100000 in
theorem B_FB_fillValues_0 {Γ : XG} {d : Nat} {Q : Option Value → XM → Prop} {r0 : Nat} {μ : XM}  (h : G Γ m_FB_fillValues (d + 1) (0, 0) Q 2 [.ref r0, .int (w 0)] [] μ) : G Γ m_FB_fillValues (d + 1) (0, 0) Q 0 [.ref r0] [] μ := by
  refine run_ok (pc' := 2) [(.iconst 0, 0, 0, 0), (.istore_n 1, 0, 0, 0)] _ _ _ _ (by decide +kernel) ?_
  show G Γ m_FB_fillValues (d + 1) (0, 0) Q 2 [.ref r0, .int (w 0)] [] μ
  exact h
set_option maxRecDepth 100000 in
theorem B_FB_fillValues_2 {Γ : XG} {d : Nat} {Q : Option Value → XM → Prop} {r0 r0_9 r0_18 : Nat} {x1 : Int32} {μ : XM} (o_r0_10 : ob μ r0 10) (e_r0_9 : xR μ r0 9 = some r0_9) (o_r0_9_6 : ob μ r0_9 6) (e_r0_18 : xR μ r0 18 = some r0_18) (h : ((x1 < xI μ r0_9 4 → Call Γ m_Pi_indexOf d [.ref r0_9, .int x1] μ (KI (fun v1 μ1 => Call Γ m_FB_valueOf d [.ref r0, .ref r0_9, .int v1] μ1 (KI (fun v2 μ2 => inS μ2 0 r0_18 x1 ∧ ∀ μ4, μ4 = sI μ2 r0_18 x1.toNatClampNeg v2 → G Γ m_FB_fillValues (d + 1) (0, 0) Q 2 [.ref r0, .int (x1 + w 1)] [] μ4))))) ∧ (¬ x1 < xI μ r0_9 4 → Q none μ))) : G Γ m_FB_fillValues (d + 1) (0, 0) Q 2 [.ref r0, .int x1] [] μ := by
  refine run_ok (pc' := 10) [(.iload_n 1, 0, 0, 0), (.aload_n 0, 0, 0, 0), (.getfield 48, 10, 9, 2), (.getfield 223, 6, 4, 0)] _ _ _ _ (by decide +kernel) ?_
  show _ ∧ (∃ _, _ ∧ (_ ∧ (_)))
  refine ⟨o_r0_10, r0_9, e_r0_9, o_r0_9_6, ?_⟩
  show G Γ m_FB_fillValues (d + 1) (0, 0) Q 10 [.ref r0, .int x1] [.int (xI μ r0_9 4), .int x1] μ
  refine g_icmp_ge (pc' := 41) (off := 31) (by decide) (by decide +kernel) (fun hc => ?_) (fun hc => ?_)
  · replace h := h.2 hc
    show G Γ m_FB_fillValues (d + 1) (0, 0) Q 41 [.ref r0, .int x1] [] μ
    exact g_retv (by decide +kernel) rfl h
  · replace h := h.1 hc
    show G Γ m_FB_fillValues (d + 1) (0, 0) Q 13 [.ref r0, .int x1] [] μ
    refine run_ok (pc' := 28) [(.aload_n 0, 0, 0, 0), (.getfield 97, 10, 18, 2), (.iload_n 1, 0, 0, 0), (.aload_n 0, 0, 0, 0), (.aload_n 0, 0, 0, 0), (.getfield 48, 10, 9, 2), (.aload_n 0, 0, 0, 0), (.getfield 48, 10, 9, 2), (.iload_n 1, 0, 0, 0)] _ _ _ _ (by decide +kernel) ?_
    show _ ∧ (∃ _, _ ∧ (_ ∧ (∃ _, _ ∧ (_ ∧ (∃ _, _ ∧ (_))))))
    refine ⟨o_r0_10, r0_18, e_r0_18, o_r0_10, r0_9, e_r0_9, o_r0_10, r0_9, e_r0_9, ?_⟩
    show G Γ m_FB_fillValues (d + 1) (0, 0) Q 28 [.ref r0, .int x1] [.int x1, .ref r0_9, .ref r0_9, .ref r0, .int x1, .ref r0_18] μ
    refine g_invV (M' := m_Pi_indexOf) (b1 := 0) (b2 := 0) (As := [.int x1]) (a := r0_9) (st := [.ref r0_9, .ref r0, .int x1, .ref r0_18]) lk_10_182 (by decide +kernel) rfl (dk_Pi_indexOf d) (Nat.le_of_ble_eq_true rfl) (Or.inl ⟨6, o_r0_9_6, rfl⟩) h ?_
    rintro _ μ1 ⟨v1, rfl, h⟩ hn1
    show G Γ m_FB_fillValues (d + 1) (0, 0) Q 31 [.ref r0, .int x1] [.int v1, .ref r0_9, .ref r0, .int x1, .ref r0_18] μ1
    refine g_invV (M' := m_FB_valueOf) (b1 := 0) (b2 := 0) (As := [.ref r0_9, .int v1]) (a := r0) (st := [.int x1, .ref r0_18]) lk_10_196 (by decide +kernel) rfl (dk_FB_valueOf d) (Nat.le_of_ble_eq_true rfl) (Or.inl ⟨10, ((o_r0_10).mono hn1), rfl⟩) h ?_
    rintro _ μ2 ⟨v2, rfl, h⟩ hn2
    show G Γ m_FB_fillValues (d + 1) (0, 0) Q 34 [.ref r0, .int x1] [.int v2, .int x1, .ref r0_18] μ2
    obtain ⟨is3, h⟩ := h
    refine run_ok (pc' := 35) [(.iastore, 0, 0, 0)] _ _ _ _ (by decide +kernel) ?_
    show _ ∧ (_)
    refine ⟨is3, ?_⟩
    show G Γ m_FB_fillValues (d + 1) (0, 0) Q 35 [.ref r0, .int x1] [] (sI μ2 r0_18 x1.toNatClampNeg v2)
    obtain ⟨μ4, em4⟩ : ∃ m : XM, m = sI μ2 r0_18 x1.toNatClampNeg v2 := ⟨_, rfl⟩
    replace h := h μ4 em4
    have hm4 : xN μ2 ≤ xN μ4 := by rw [em4]; exact Nat.le_refl _
    rw [← em4]
    refine run_ok (pc' := 2) [(.iinc 1 1, 0, 0, 0), (.goto (-36), 0, 0, 0)] _ _ _ _ (by decide +kernel) ?_
    show G Γ m_FB_fillValues (d + 1) (0, 0) Q 2 [.ref r0, .int (x1 + w 1)] [] μ4
    exact h
/-! FrostBox weightOf(I)I -/
set_option maxRecDepth 100000 in
theorem B_FB_weightOf_0 {Γ : XG} {d : Nat} {Q : Option Value → XM → Prop} {r0 r0_9 r0_9_1 r0_1 r0_1_1 r0_9_0 : Nat} {x1 : Int32} {μ : XM} (o_r0_10 : ob μ r0 10) (e_r0_9 : xR μ r0 9 = some r0_9) (o_r0_9_6 : ob μ r0_9 6) (e_r0_9_1 : xR μ r0_9 1 = some r0_9_1) (e_r0_1 : xR μ r0 1 = some r0_1) (o_r0_1_1 : ob μ r0_1 1) (e_r0_1_1 : xR μ r0_1 1 = some r0_1_1) (e_r0_9_0 : xR μ r0_9 0 = some r0_9_0) (h : inb μ 0 r0_9_1 x1 ∧ inb μ 0 r0_9_0 x1 ∧ inb μ 8 r0_1_1 (xI μ r0_9_0 x1.toNatClampNeg) ∧ ∃ a3, xR μ r0_1_1 (xI μ r0_9_0 x1.toNatClampNeg).toNatClampNeg = some a3 ∧ inb μ 0 a3 (w 1) ∧ Q (some (.int ((xI μ r0_9_1 x1.toNatClampNeg) * (xI μ a3 (w 1).toNatClampNeg)))) μ) : G Γ m_FB_weightOf (d + 1) (0, 0) Q 0 [.ref r0, .int x1] [] μ := by
  obtain ⟨ib1, h⟩ := h
  obtain ⟨ib2, h⟩ := h
  obtain ⟨ib3, h⟩ := h
  obtain ⟨a3, ea3, h⟩ := h
  obtain ⟨ib4, h⟩ := h
  refine run_ok (pc' := 29) [(.aload_n 0, 0, 0, 0), (.getfield 48, 10, 9, 2), (.getfield 187, 6, 1, 2), (.iload_n 1, 0, 0, 0), (.iaload, 0, 0, 0), (.aload_n 0, 0, 0, 0), (.getfield 19, 10, 1, 2), (.getfield 172, 1, 1, 2), (.aload_n 0, 0, 0, 0), (.getfield 48, 10, 9, 2), (.getfield 185, 6, 0, 2), (.iload_n 1, 0, 0, 0), (.iaload, 0, 0, 0), (.aaload, 8, 0, 0), (.iconst 1, 0, 0, 0), (.iaload, 0, 0, 0), (.imul, 0, 0, 0)] _ _ _ _ (by decide +kernel) ?_
  show _ ∧ (∃ _, _ ∧ (_ ∧ (∃ _, _ ∧ (_ ∧ (_ ∧ (∃ _, _ ∧ (_ ∧ (∃ _, _ ∧ (_ ∧ (∃ _, _ ∧ (_ ∧ (∃ _, _ ∧ (_ ∧ (_ ∧ (∃ _, _ ∧ (_ ∧ (_)))))))))))))))))
  refine ⟨o_r0_10, r0_9, e_r0_9, o_r0_9_6, r0_9_1, e_r0_9_1, ib1, o_r0_10, r0_1, e_r0_1, o_r0_1_1, r0_1_1, e_r0_1_1, o_r0_10, r0_9, e_r0_9, o_r0_9_6, r0_9_0, e_r0_9_0, ib2, ib3, a3, ea3, ib4, ?_⟩
  show G Γ m_FB_weightOf (d + 1) (0, 0) Q 29 [.ref r0, .int x1] [.int ((xI μ r0_9_1 x1.toNatClampNeg) * (xI μ a3 (w 1).toNatClampNeg))] μ
  exact g_reti (by decide +kernel) rfl h
/-! FrostBox canPut(LFrostBox$Pile;II)Z -/
set_option maxRecDepth 100000 in
theorem lk_10_227 : LkV 10 227 m_Pi_portionsInAll 0 := ⟨lc_Pi_portionsInAll, lwG_in (List.mem_of_getElem? (i := 694) rfl) rfl, lwG_in (List.mem_of_getElem? (i := 553) rfl) rfl, lwG_in (List.mem_of_getElem? (i := 554) rfl) rfl⟩
set_option maxRecDepth 100000 in
theorem B_FB_canPut_0 {Γ : XG} {d : Nat} {Q : Option Value → XM → Prop} {r0 r1 : Nat} {x2 x3 : Int32} {μ : XM} (o_r0_10 : ob μ r0 10) (o_r1_6 : ob μ r1 6) (h : Call Γ m_FB_isKind d [.ref r0, .int x2] μ (KI (fun v1 μ1 => ((v1 = w 0 → Q (some (.int (w 0))) μ1) ∧ (¬ v1 = w 0 → ((x3 < w 1 → Q (some (.int (w 0))) μ1) ∧ (¬ x3 < w 1 → ((w 9 < x3 → Q (some (.int (w 0))) μ1) ∧ (¬ w 9 < x3 → ((xI μ1 r1 4 < w 8 → Call Γ m_Pi_portionsInAll d [.ref r1] μ1 (KI (fun v2 μ2 => ∃ a3, xR μ2 r0 1 = some a3 ∧ ob μ2 a3 1 ∧ ∃ a4, xR μ2 a3 0 = some a4 ∧ inb μ2 0 a4 (w 0) ∧ ((xI μ2 a4 (w 0).toNatClampNeg < v2 + x3 → Q (some (.int (w 0))) μ2) ∧ (¬ xI μ2 a4 (w 0).toNatClampNeg < v2 + x3 → Q (some (.int (w 1))) μ2))))) ∧ (¬ xI μ1 r1 4 < w 8 → Q (some (.int (w 0))) μ1))))))))))) : G Γ m_FB_canPut (d + 1) (0, 0) Q 0 [.ref r0, .ref r1, .int x2, .int x3] [] μ := by
  refine run_ok (pc' := 2) [(.aload_n 0, 0, 0, 0), (.iload_n 2, 0, 0, 0)] _ _ _ _ (by decide +kernel) ?_
  show G Γ m_FB_canPut (d + 1) (0, 0) Q 2 [.ref r0, .ref r1, .int x2, .int x3] [.int x2, .ref r0] μ
  refine g_invV (M' := m_FB_isKind) (b1 := 0) (b2 := 0) (As := [.int x2]) (a := r0) (st := []) lk_10_169 (by decide +kernel) rfl (dk_FB_isKind d) (Nat.le_of_ble_eq_true rfl) (Or.inl ⟨10, o_r0_10, rfl⟩) h ?_
  rintro _ μ1 ⟨v1, rfl, h⟩ hn1
  show G Γ m_FB_canPut (d + 1) (0, 0) Q 5 [.ref r0, .ref r1, .int x2, .int x3] [.int v1] μ1
  refine g_ifz_eq (pc' := 50) (off := 45) (by decide) (by decide +kernel) (fun hc => ?_) (fun hc => ?_)
  · replace h := h.1 hc
    show G Γ m_FB_canPut (d + 1) (0, 0) Q 50 [.ref r0, .ref r1, .int x2, .int x3] [] μ1
    refine run_ok (pc' := 51) [(.iconst 0, 0, 0, 0)] _ _ _ _ (by decide +kernel) ?_
    show G Γ m_FB_canPut (d + 1) (0, 0) Q 51 [.ref r0, .ref r1, .int x2, .int x3] [.int (w 0)] μ1
    exact g_retz (by decide +kernel) rfl (Or.inl rfl) h
  · replace h := h.2 hc
    show G Γ m_FB_canPut (d + 1) (0, 0) Q 8 [.ref r0, .ref r1, .int x2, .int x3] [] μ1
    refine run_ok (pc' := 10) [(.iload_n 3, 0, 0, 0), (.iconst 1, 0, 0, 0)] _ _ _ _ (by decide +kernel) ?_
    show G Γ m_FB_canPut (d + 1) (0, 0) Q 10 [.ref r0, .ref r1, .int x2, .int x3] [.int (w 1), .int x3] μ1
    refine g_icmp_lt (pc' := 50) (off := 40) (by decide) (by decide +kernel) (fun hc => ?_) (fun hc => ?_)
    · replace h := h.1 hc
      show G Γ m_FB_canPut (d + 1) (0, 0) Q 50 [.ref r0, .ref r1, .int x2, .int x3] [] μ1
      refine run_ok (pc' := 51) [(.iconst 0, 0, 0, 0)] _ _ _ _ (by decide +kernel) ?_
      show G Γ m_FB_canPut (d + 1) (0, 0) Q 51 [.ref r0, .ref r1, .int x2, .int x3] [.int (w 0)] μ1
      exact g_retz (by decide +kernel) rfl (Or.inl rfl) h
    · replace h := h.2 hc
      show G Γ m_FB_canPut (d + 1) (0, 0) Q 13 [.ref r0, .ref r1, .int x2, .int x3] [] μ1
      refine run_ok (pc' := 16) [(.iload_n 3, 0, 0, 0), (.bipush 9, 0, 0, 0)] _ _ _ _ (by decide +kernel) ?_
      show G Γ m_FB_canPut (d + 1) (0, 0) Q 16 [.ref r0, .ref r1, .int x2, .int x3] [.int (w 9), .int x3] μ1
      refine g_icmp_gt (pc' := 50) (off := 34) (by decide) (by decide +kernel) (fun hc => ?_) (fun hc => ?_)
      · replace h := h.1 hc
        show G Γ m_FB_canPut (d + 1) (0, 0) Q 50 [.ref r0, .ref r1, .int x2, .int x3] [] μ1
        refine run_ok (pc' := 51) [(.iconst 0, 0, 0, 0)] _ _ _ _ (by decide +kernel) ?_
        show G Γ m_FB_canPut (d + 1) (0, 0) Q 51 [.ref r0, .ref r1, .int x2, .int x3] [.int (w 0)] μ1
        exact g_retz (by decide +kernel) rfl (Or.inl rfl) h
      · replace h := h.2 hc
        show G Γ m_FB_canPut (d + 1) (0, 0) Q 19 [.ref r0, .ref r1, .int x2, .int x3] [] μ1
        refine run_ok (pc' := 25) [(.aload_n 1, 0, 0, 0), (.getfield 223, 6, 4, 0), (.bipush 8, 0, 0, 0)] _ _ _ _ (by decide +kernel) ?_
        show _ ∧ (_)
        refine ⟨((o_r1_6).mono hn1), ?_⟩
        show G Γ m_FB_canPut (d + 1) (0, 0) Q 25 [.ref r0, .ref r1, .int x2, .int x3] [.int (w 8), .int (xI μ1 r1 4)] μ1
        refine g_icmp_ge (pc' := 50) (off := 25) (by decide) (by decide +kernel) (fun hc => ?_) (fun hc => ?_)
        · replace h := h.2 hc
          show G Γ m_FB_canPut (d + 1) (0, 0) Q 50 [.ref r0, .ref r1, .int x2, .int x3] [] μ1
          refine run_ok (pc' := 51) [(.iconst 0, 0, 0, 0)] _ _ _ _ (by decide +kernel) ?_
          show G Γ m_FB_canPut (d + 1) (0, 0) Q 51 [.ref r0, .ref r1, .int x2, .int x3] [.int (w 0)] μ1
          exact g_retz (by decide +kernel) rfl (Or.inl rfl) h
        · replace h := h.1 hc
          show G Γ m_FB_canPut (d + 1) (0, 0) Q 28 [.ref r0, .ref r1, .int x2, .int x3] [] μ1
          refine run_ok (pc' := 29) [(.aload_n 1, 0, 0, 0)] _ _ _ _ (by decide +kernel) ?_
          show G Γ m_FB_canPut (d + 1) (0, 0) Q 29 [.ref r0, .ref r1, .int x2, .int x3] [.ref r1] μ1
          refine g_invV (M' := m_Pi_portionsInAll) (b1 := 0) (b2 := 0) (As := []) (a := r1) (st := []) lk_10_227 (by decide +kernel) rfl (dk_Pi_portionsInAll d) (Nat.le_of_ble_eq_true rfl) (Or.inl ⟨6, ((o_r1_6).mono hn1), rfl⟩) h ?_
          rintro _ μ2 ⟨v2, rfl, h⟩ hn2
          show G Γ m_FB_canPut (d + 1) (0, 0) Q 32 [.ref r0, .ref r1, .int x2, .int x3] [.int v2] μ2
          obtain ⟨a3, ea3, h⟩ := h
          obtain ⟨o_a3_1, h⟩ := h
          obtain ⟨a4, ea4, h⟩ := h
          obtain ⟨ib5, h⟩ := h
          refine run_ok (pc' := 43) [(.iload_n 3, 0, 0, 0), (.iadd, 0, 0, 0), (.aload_n 0, 0, 0, 0), (.getfield 19, 10, 1, 2), (.getfield 166, 1, 0, 2), (.iconst 0, 0, 0, 0), (.iaload, 0, 0, 0)] _ _ _ _ (by decide +kernel) ?_
          show _ ∧ (∃ _, _ ∧ (_ ∧ (∃ _, _ ∧ (_ ∧ (_)))))
          refine ⟨(((o_r0_10).mono hn1).mono hn2), a3, ea3, o_a3_1, a4, ea4, ib5, ?_⟩
          show G Γ m_FB_canPut (d + 1) (0, 0) Q 43 [.ref r0, .ref r1, .int x2, .int x3] [.int (xI μ2 a4 (w 0).toNatClampNeg), .int (v2 + x3)] μ2
          refine g_icmp_gt (pc' := 50) (off := 7) (by decide) (by decide +kernel) (fun hc => ?_) (fun hc => ?_)
          · replace h := h.1 hc
            show G Γ m_FB_canPut (d + 1) (0, 0) Q 50 [.ref r0, .ref r1, .int x2, .int x3] [] μ2
            refine run_ok (pc' := 51) [(.iconst 0, 0, 0, 0)] _ _ _ _ (by decide +kernel) ?_
            show G Γ m_FB_canPut (d + 1) (0, 0) Q 51 [.ref r0, .ref r1, .int x2, .int x3] [.int (w 0)] μ2
            exact g_retz (by decide +kernel) rfl (Or.inl rfl) h
          · replace h := h.2 hc
            show G Γ m_FB_canPut (d + 1) (0, 0) Q 46 [.ref r0, .ref r1, .int x2, .int x3] [] μ2
            refine run_ok (pc' := 51) [(.iconst 1, 0, 0, 0), (.goto 4, 0, 0, 0)] _ _ _ _ (by decide +kernel) ?_
            show G Γ m_FB_canPut (d + 1) (0, 0) Q 51 [.ref r0, .ref r1, .int x2, .int x3] [.int (w 1)] μ2
            exact g_retz (by decide +kernel) rfl (Or.inr rfl) h
/-! FrostBox borneHours(I)I -/
set_option maxRecDepth 100000 in
theorem B_FB_borneHours_0 {Γ : XG} {d : Nat} {Q : Option Value → XM → Prop} {r0 r0_1 r0_1_0 : Nat} {x1 : Int32} {μ : XM} (o_r0_10 : ob μ r0 10) (e_r0_1 : xR μ r0 1 = some r0_1) (o_r0_1_1 : ob μ r0_1 1) (e_r0_1_0 : xR μ r0_1 0 = some r0_1_0) (h : inb μ 0 r0_1_0 (w 0) ∧ ((w 0 < xI μ r0_1_0 (w 0).toNatClampNeg → inb μ 0 r0_1_0 (w 1) ∧ ¬ (xI μ r0_1_0 (w 0).toNatClampNeg) = 0 ∧ Q (some (.int (((xI μ r0_1_0 (w 1).toNatClampNeg) * x1) / (xI μ r0_1_0 (w 0).toNatClampNeg)))) μ) ∧ (¬ w 0 < xI μ r0_1_0 (w 0).toNatClampNeg → Q (some (.int (w 0))) μ))) : G Γ m_FB_borneHours (d + 1) (0, 0) Q 0 [.ref r0, .int x1] [] μ := by
  obtain ⟨ib1, h⟩ := h
  refine run_ok (pc' := 11) [(.aload_n 0, 0, 0, 0), (.getfield 19, 10, 1, 2), (.getfield 166, 1, 0, 2), (.iconst 0, 0, 0, 0), (.iaload, 0, 0, 0), (.istore_n 2, 0, 0, 0), (.iload_n 2, 0, 0, 0)] _ _ _ _ (by decide +kernel) ?_
  show _ ∧ (∃ _, _ ∧ (_ ∧ (∃ _, _ ∧ (_ ∧ (_)))))
  refine ⟨o_r0_10, r0_1, e_r0_1, o_r0_1_1, r0_1_0, e_r0_1_0, ib1, ?_⟩
  show G Γ m_FB_borneHours (d + 1) (0, 0) Q 11 [.ref r0, .int x1, .int (xI μ r0_1_0 (w 0).toNatClampNeg)] [.int (xI μ r0_1_0 (w 0).toNatClampNeg)] μ
  refine g_ifz_le (pc' := 30) (off := 19) (by decide) (by decide +kernel) (fun hc => ?_) (fun hc => ?_)
  · replace h := h.2 hc
    show G Γ m_FB_borneHours (d + 1) (0, 0) Q 30 [.ref r0, .int x1, .int (xI μ r0_1_0 (w 0).toNatClampNeg)] [] μ
    refine run_ok (pc' := 31) [(.iconst 0, 0, 0, 0)] _ _ _ _ (by decide +kernel) ?_
    show G Γ m_FB_borneHours (d + 1) (0, 0) Q 31 [.ref r0, .int x1, .int (xI μ r0_1_0 (w 0).toNatClampNeg)] [.int (w 0)] μ
    exact g_reti (by decide +kernel) rfl h
  · replace h := h.1 hc
    show G Γ m_FB_borneHours (d + 1) (0, 0) Q 14 [.ref r0, .int x1, .int (xI μ r0_1_0 (w 0).toNatClampNeg)] [] μ
    obtain ⟨ib2, h⟩ := h
    obtain ⟨nz3, h⟩ := h
    refine run_ok (pc' := 31) [(.aload_n 0, 0, 0, 0), (.getfield 19, 10, 1, 2), (.getfield 166, 1, 0, 2), (.iconst 1, 0, 0, 0), (.iaload, 0, 0, 0), (.iload_n 1, 0, 0, 0), (.imul, 0, 0, 0), (.iload_n 2, 0, 0, 0), (.idiv, 0, 0, 0), (.goto 4, 0, 0, 0)] _ _ _ _ (by decide +kernel) ?_
    show _ ∧ (∃ _, _ ∧ (_ ∧ (∃ _, _ ∧ (_ ∧ (_ ∧ (_))))))
    refine ⟨o_r0_10, r0_1, e_r0_1, o_r0_1_1, r0_1_0, e_r0_1_0, ib2, nz3, ?_⟩
    show G Γ m_FB_borneHours (d + 1) (0, 0) Q 31 [.ref r0, .int x1, .int (xI μ r0_1_0 (w 0).toNatClampNeg)] [.int (((xI μ r0_1_0 (w 1).toNatClampNeg) * x1) / (xI μ r0_1_0 (w 0).toNatClampNeg))] μ
    exact g_reti (by decide +kernel) rfl h
/-! FrostBox hoursTooMany(LFrostBox$Pile;I)I -/
set_option maxRecDepth 100000 in
theorem lk_10_230 : LkV 10 230 m_FB_borneHours 1 := ⟨lc_FB_borneHours, lwG_in (List.mem_of_getElem? (i := 805) rfl) rfl, lwG_in (List.mem_of_getElem? (i := 807) rfl) rfl, lwG_in (List.mem_of_getElem? (i := 30) rfl) rfl⟩
set_option maxRecDepth 100000 in
theorem B_FB_hoursTooMany_0 {Γ : XG} {d : Nat} {Q : Option Value → XM → Prop} {r0 r1 : Nat} {x2 : Int32} {μ : XM} (o_r1_6 : ob μ r1 6) (o_r0_10 : ob μ r0 10) (h : Call Γ m_Pi_portionsInAll d [.ref r1] μ (KI (fun v1 μ1 => Call Γ m_FB_borneHours d [.ref r0, .int v1] μ1 (KI (fun v2 μ2 => Q (some (.int (jmax (w 0) (x2 - v2)))) μ2))))) : G Γ m_FB_hoursTooMany (d + 1) (0, 0) Q 0 [.ref r0, .ref r1, .int x2] [] μ := by
  refine run_ok (pc' := 4) [(.iconst 0, 0, 0, 0), (.iload_n 2, 0, 0, 0), (.aload_n 0, 0, 0, 0), (.aload_n 1, 0, 0, 0)] _ _ _ _ (by decide +kernel) ?_
  show G Γ m_FB_hoursTooMany (d + 1) (0, 0) Q 4 [.ref r0, .ref r1, .int x2] [.ref r1, .ref r0, .int x2, .int (w 0)] μ
  refine g_invV (M' := m_Pi_portionsInAll) (b1 := 0) (b2 := 0) (As := []) (a := r1) (st := [.ref r0, .int x2, .int (w 0)]) lk_10_227 (by decide +kernel) rfl (dk_Pi_portionsInAll d) (Nat.le_of_ble_eq_true rfl) (Or.inl ⟨6, o_r1_6, rfl⟩) h ?_
  rintro _ μ1 ⟨v1, rfl, h⟩ hn1
  show G Γ m_FB_hoursTooMany (d + 1) (0, 0) Q 7 [.ref r0, .ref r1, .int x2] [.int v1, .ref r0, .int x2, .int (w 0)] μ1
  refine g_invV (M' := m_FB_borneHours) (b1 := 0) (b2 := 0) (As := [.int v1]) (a := r0) (st := [.int x2, .int (w 0)]) lk_10_230 (by decide +kernel) rfl (dk_FB_borneHours d) (Nat.le_of_ble_eq_true rfl) (Or.inl ⟨10, ((o_r0_10).mono hn1), rfl⟩) h ?_
  rintro _ μ2 ⟨v2, rfl, h⟩ hn2
  show G Γ m_FB_hoursTooMany (d + 1) (0, 0) Q 10 [.ref r0, .ref r1, .int x2] [.int v2, .int x2, .int (w 0)] μ2
  refine run_ok (pc' := 11) [(.isub, 0, 0, 0)] _ _ _ _ (by decide +kernel) ?_
  show G Γ m_FB_hoursTooMany (d + 1) (0, 0) Q 11 [.ref r0, .ref r1, .int x2] [.int (x2 - v2), .int (w 0)] μ2
  refine g_maxI (i := 216) lm_10_216 (Nat.le_of_ble_eq_true rfl) (by decide +kernel) ?_
  show G Γ m_FB_hoursTooMany (d + 1) (0, 0) Q 14 [.ref r0, .ref r1, .int x2] [.int (jmax (w 0) (x2 - v2))] μ2
  exact g_reti (by decide +kernel) rfl h
/-! FrostBox eatBox(I)I -/
set_option maxRecDepth 100000 in
theorem lk_10_237 : LkV 10 237 m_Pi_remove 1 := ⟨lc_Pi_remove, lwG_in (List.mem_of_getElem? (i := 755) rfl) rfl, lwG_in (List.mem_of_getElem? (i := 756) rfl) rfl, lwG_in (List.mem_of_getElem? (i := 757) rfl) rfl⟩
set_option maxRecDepth 100000 in
theorem lk_10_233 : LkV 10 233 m_Me_add 4 := ⟨lc_Me_add, lwG_in (List.mem_of_getElem? (i := 751) rfl) rfl, lwG_in (List.mem_of_getElem? (i := 752) rfl) rfl, lwG_in (List.mem_of_getElem? (i := 753) rfl) rfl⟩
set_option maxRecDepth 100000 in
theorem B_FB_eatBox_0 {Γ : XG} {d : Nat} {Q : Option Value → XM → Prop} {r0 r0_9 : Nat} {x1 : Int32} {μ : XM} (o_r0_10 : ob μ r0 10) (e_r0_9 : xR μ r0 9 = some r0_9) (o_r0_9_6 : ob μ r0_9 6) (h : Call Γ m_FB_valueOf d [.ref r0, .ref r0_9, .int x1] μ (KI (fun v1 μ1 => ∃ a2, xR μ1 r0 12 = some a2 ∧ xR μ1 r0 9 = some r0_9 ∧ ∃ a4, xR μ1 r0_9 0 = some a4 ∧ inb μ1 0 a4 x1 ∧ ∃ a6, xR μ1 r0_9 1 = some a6 ∧ inb μ1 0 a6 x1 ∧ ∃ a8, xR μ1 r0_9 2 = some a8 ∧ inb μ1 0 a8 x1 ∧ ob μ1 a2 4 ∧ Call Γ m_Me_add d [.ref a2, .int (xI μ1 a4 x1.toNatClampNeg), .int (xI μ1 a6 x1.toNatClampNeg), .int (xI μ1 a8 x1.toNatClampNeg), .int v1] μ1 (KV (fun μ10 => xR μ10 r0 9 = some r0_9 ∧ Call Γ m_Pi_remove d [.ref r0_9, .int x1] μ10 (KV (fun μ12 => Q (some (.int v1)) μ12))))))) : G Γ m_FB_eatBox (d + 1) (0, 0) Q 0 [.ref r0, .int x1] [] μ := by
  refine run_ok (pc' := 6) [(.aload_n 0, 0, 0, 0), (.aload_n 0, 0, 0, 0), (.getfield 48, 10, 9, 2), (.iload_n 1, 0, 0, 0)] _ _ _ _ (by decide +kernel) ?_
  show _ ∧ (∃ _, _ ∧ (_))
  refine ⟨o_r0_10, r0_9, e_r0_9, ?_⟩
  show G Γ m_FB_eatBox (d + 1) (0, 0) Q 6 [.ref r0, .int x1] [.int x1, .ref r0_9, .ref r0] μ
  refine g_invV (M' := m_FB_valueOf) (b1 := 0) (b2 := 0) (As := [.ref r0_9, .int x1]) (a := r0) (st := []) lk_10_196 (by decide +kernel) rfl (dk_FB_valueOf d) (Nat.le_of_ble_eq_true rfl) (Or.inl ⟨10, o_r0_10, rfl⟩) h ?_
  rintro _ μ1 ⟨v1, rfl, h⟩ hn1
  show G Γ m_FB_eatBox (d + 1) (0, 0) Q 9 [.ref r0, .int x1] [.int v1] μ1
  obtain ⟨a2, ea2, h⟩ := h
  obtain ⟨ea3, h⟩ := h
  obtain ⟨a4, ea4, h⟩ := h
  obtain ⟨ib5, h⟩ := h
  obtain ⟨a6, ea6, h⟩ := h
  obtain ⟨ib7, h⟩ := h
  obtain ⟨a8, ea8, h⟩ := h
  obtain ⟨ib9, h⟩ := h
  refine run_ok (pc' := 42) [(.istore_n 2, 0, 0, 0), (.aload_n 0, 0, 0, 0), (.getfield 65, 10, 12, 2), (.aload_n 0, 0, 0, 0), (.getfield 48, 10, 9, 2), (.getfield 185, 6, 0, 2), (.iload_n 1, 0, 0, 0), (.iaload, 0, 0, 0), (.aload_n 0, 0, 0, 0), (.getfield 48, 10, 9, 2), (.getfield 187, 6, 1, 2), (.iload_n 1, 0, 0, 0), (.iaload, 0, 0, 0), (.aload_n 0, 0, 0, 0), (.getfield 48, 10, 9, 2), (.getfield 190, 6, 2, 2), (.iload_n 1, 0, 0, 0), (.iaload, 0, 0, 0), (.iload_n 2, 0, 0, 0)] _ _ _ _ (by decide +kernel) ?_
  show _ ∧ (∃ _, _ ∧ (_ ∧ (∃ _, _ ∧ (_ ∧ (∃ _, _ ∧ (_ ∧ (_ ∧ (∃ _, _ ∧ (_ ∧ (∃ _, _ ∧ (_ ∧ (_ ∧ (∃ _, _ ∧ (_ ∧ (∃ _, _ ∧ (_ ∧ (_)))))))))))))))))
  refine ⟨((o_r0_10).mono hn1), a2, ea2, ((o_r0_10).mono hn1), r0_9, ea3, ((o_r0_9_6).mono hn1), a4, ea4, ib5, ((o_r0_10).mono hn1), r0_9, ea3, ((o_r0_9_6).mono hn1), a6, ea6, ib7, ((o_r0_10).mono hn1), r0_9, ea3, ((o_r0_9_6).mono hn1), a8, ea8, ib9, ?_⟩
  show G Γ m_FB_eatBox (d + 1) (0, 0) Q 42 [.ref r0, .int x1, .int v1] [.int v1, .int (xI μ1 a8 x1.toNatClampNeg), .int (xI μ1 a6 x1.toNatClampNeg), .int (xI μ1 a4 x1.toNatClampNeg), .ref a2] μ1
  obtain ⟨o_a2_4, h⟩ := h
  refine g_invV (M' := m_Me_add) (b1 := 0) (b2 := 0) (As := [.int (xI μ1 a4 x1.toNatClampNeg), .int (xI μ1 a6 x1.toNatClampNeg), .int (xI μ1 a8 x1.toNatClampNeg), .int v1]) (a := a2) (st := []) lk_10_233 (by decide +kernel) rfl (dk_Me_add d) (Nat.le_of_ble_eq_true rfl) (Or.inl ⟨4, o_a2_4, rfl⟩) h ?_
  rintro _ μ10 ⟨rfl, h⟩ hn10
  show G Γ m_FB_eatBox (d + 1) (0, 0) Q 45 [.ref r0, .int x1, .int v1] [] μ10
  obtain ⟨ea11, h⟩ := h
  refine run_ok (pc' := 50) [(.aload_n 0, 0, 0, 0), (.getfield 48, 10, 9, 2), (.iload_n 1, 0, 0, 0)] _ _ _ _ (by decide +kernel) ?_
  show _ ∧ (∃ _, _ ∧ (_))
  refine ⟨(((o_r0_10).mono hn1).mono hn10), r0_9, ea11, ?_⟩
  show G Γ m_FB_eatBox (d + 1) (0, 0) Q 50 [.ref r0, .int x1, .int v1] [.int x1, .ref r0_9] μ10
  refine g_invV (M' := m_Pi_remove) (b1 := 0) (b2 := 0) (As := [.int x1]) (a := r0_9) (st := []) lk_10_237 (by decide +kernel) rfl (dk_Pi_remove d) (Nat.le_of_ble_eq_true rfl) (Or.inl ⟨6, (((o_r0_9_6).mono hn1).mono hn10), rfl⟩) h ?_
  rintro _ μ12 ⟨rfl, h⟩ hn12
  show G Γ m_FB_eatBox (d + 1) (0, 0) Q 53 [.ref r0, .int x1, .int v1] [] μ12
  refine run_ok (pc' := 54) [(.iload_n 2, 0, 0, 0)] _ _ _ _ (by decide +kernel) ?_
  show G Γ m_FB_eatBox (d + 1) (0, 0) Q 54 [.ref r0, .int x1, .int v1] [.int v1] μ12
  exact g_reti (by decide +kernel) rfl h
/-! FrostBox saveAct()V -/
set_option maxRecDepth 100000 in
theorem lk_10_240 : LkV 10 240 m_Ac_save 2 := ⟨lc_Ac_save, lwG_in (List.mem_of_getElem? (i := 699) rfl) rfl, lwG_in (List.mem_of_getElem? (i := 700) rfl) rfl, lwG_in (List.mem_of_getElem? (i := 701) rfl) rfl⟩
set_option maxRecDepth 100000 in
theorem B_FB_saveAct_0 {Γ : XG} {d : Nat} {Q : Option Value → XM → Prop} {r0 r0_11 r0_9 r0_12 : Nat} {μ : XM} (o_r0_10 : ob μ r0 10) (e_r0_11 : xR μ r0 11 = some r0_11) (e_r0_9 : xR μ r0 9 = some r0_9) (e_r0_12 : xR μ r0 12 = some r0_12) (o_r0_12_4 : ob μ r0_12 4) (o_r0_11_0 : ob μ r0_11 0) (h : Call Γ m_Ac_save d [.ref r0_11, .ref r0_9, .int (xI μ r0_12 1)] μ (KV (fun μ1 => Q none μ1))) : G Γ m_FB_saveAct (d + 1) (0, 0) Q 0 [.ref r0] [] μ := by
  refine run_ok (pc' := 15) [(.aload_n 0, 0, 0, 0), (.getfield 58, 10, 11, 2), (.aload_n 0, 0, 0, 0), (.getfield 48, 10, 9, 2), (.aload_n 0, 0, 0, 0), (.getfield 65, 10, 12, 2), (.getfield 152, 4, 1, 0)] _ _ _ _ (by decide +kernel) ?_
  show _ ∧ (∃ _, _ ∧ (_ ∧ (∃ _, _ ∧ (_ ∧ (∃ _, _ ∧ (_ ∧ (_)))))))
  refine ⟨o_r0_10, r0_11, e_r0_11, o_r0_10, r0_9, e_r0_9, o_r0_10, r0_12, e_r0_12, o_r0_12_4, ?_⟩
  show G Γ m_FB_saveAct (d + 1) (0, 0) Q 15 [.ref r0] [.int (xI μ r0_12 1), .ref r0_9, .ref r0_11] μ
  refine g_invV (M' := m_Ac_save) (b1 := 0) (b2 := 0) (As := [.ref r0_9, .int (xI μ r0_12 1)]) (a := r0_11) (st := []) lk_10_240 (by decide +kernel) rfl (dk_Ac_save d) (Nat.le_of_ble_eq_true rfl) (Or.inl ⟨0, o_r0_11_0, rfl⟩) h ?_
  rintro _ μ1 ⟨rfl, h⟩ hn1
  show G Γ m_FB_saveAct (d + 1) (0, 0) Q 18 [.ref r0] [] μ1
  exact g_retv (by decide +kernel) rfl h
/-! FrostBox put(IIZ)I -/
set_option maxRecDepth 100000 in
theorem lk_10_251 : LkV 10 251 m_Pi_push 4 := ⟨lc_Pi_push, lwG_in (List.mem_of_getElem? (i := 707) rfl) rfl, lwG_in (List.mem_of_getElem? (i := 545) rfl) rfl, lwG_in (List.mem_of_getElem? (i := 546) rfl) rfl⟩
set_option maxRecDepth 100000 in
theorem lk_10_248 : LkV 10 248 m_FB_saveAct 0 := ⟨lc_FB_saveAct, lwG_in (List.mem_of_getElem? (i := 695) rfl) rfl, lwG_in (List.mem_of_getElem? (i := 697) rfl) rfl, lwG_in (List.mem_of_getElem? (i := 22) rfl) rfl⟩
set_option maxRecDepth 100000 in
theorem lk_10_244 : LkV 10 244 m_FB_canPut 3 := ⟨lc_FB_canPut, lwG_in (List.mem_of_getElem? (i := 690) rfl) rfl, lwG_in (List.mem_of_getElem? (i := 692) rfl) rfl, lwG_in (List.mem_of_getElem? (i := 21) rfl) rfl⟩
set_option maxRecDepth 100000 in
theorem B_FB_put_0 {Γ : XG} {d : Nat} {Q : Option Value → XM → Prop} {r0 r0_9 : Nat} {x1 x2 x3 : Int32} {μ : XM} (o_r0_10 : ob μ r0 10) (e_r0_9 : xR μ r0 9 = some r0_9) (o_r0_9_6 : ob μ r0_9 6) (h : Call Γ m_FB_canPut d [.ref r0, .ref r0_9, .int x1, .int x2] μ (KI (fun v1 μ1 => ((v1 = w 0 → Q (some (.int (w (-1)))) μ1) ∧ (¬ v1 = w 0 → Call Γ m_FB_saveAct d [.ref r0] μ1 (KV (fun μ2 => xR μ2 r0 9 = some r0_9 ∧ ((x3 = w 0 → Call Γ m_Pi_push d [.ref r0_9, .int x1, .int x2, .int (w 0), .int (w (-1))] μ2 (KV (fun μ4 => xR μ4 r0 9 = some r0_9 ∧ Q (some (.int (xI μ4 r0_9 4))) μ4))) ∧ (¬ x3 = w 0 → Call Γ m_Pi_push d [.ref r0_9, .int x1, .int x2, .int (w 0), .int (xI μ2 r0_9 5)] μ2 (KV (fun μ6 => xR μ6 r0 9 = some r0_9 ∧ Q (some (.int (xI μ6 r0_9 4))) μ6))))))))))) : G Γ m_FB_put (d + 1) (0, 0) Q 0 [.ref r0, .int x1, .int x2, .int x3] [] μ := by
  refine run_ok (pc' := 7) [(.aload_n 0, 0, 0, 0), (.aload_n 0, 0, 0, 0), (.getfield 48, 10, 9, 2), (.iload_n 1, 0, 0, 0), (.iload_n 2, 0, 0, 0)] _ _ _ _ (by decide +kernel) ?_
  show _ ∧ (∃ _, _ ∧ (_))
  refine ⟨o_r0_10, r0_9, e_r0_9, ?_⟩
  show G Γ m_FB_put (d + 1) (0, 0) Q 7 [.ref r0, .int x1, .int x2, .int x3] [.int x2, .int x1, .ref r0_9, .ref r0] μ
  refine g_invV (M' := m_FB_canPut) (b1 := 0) (b2 := 0) (As := [.ref r0_9, .int x1, .int x2]) (a := r0) (st := []) lk_10_244 (by decide +kernel) rfl (dk_FB_canPut d) (Nat.le_of_ble_eq_true rfl) (Or.inl ⟨10, o_r0_10, rfl⟩) h ?_
  rintro _ μ1 ⟨v1, rfl, h⟩ hn1
  show G Γ m_FB_put (d + 1) (0, 0) Q 10 [.ref r0, .int x1, .int x2, .int x3] [.int v1] μ1
  refine g_ifz_ne (pc' := 15) (off := 5) (by decide) (by decide +kernel) (fun hc => ?_) (fun hc => ?_)
  · replace h := h.2 hc
    show G Γ m_FB_put (d + 1) (0, 0) Q 15 [.ref r0, .int x1, .int x2, .int x3] [] μ1
    refine run_ok (pc' := 16) [(.aload_n 0, 0, 0, 0)] _ _ _ _ (by decide +kernel) ?_
    show G Γ m_FB_put (d + 1) (0, 0) Q 16 [.ref r0, .int x1, .int x2, .int x3] [.ref r0] μ1
    refine g_invV (M' := m_FB_saveAct) (b1 := 0) (b2 := 0) (As := []) (a := r0) (st := []) lk_10_248 (by decide +kernel) rfl (dk_FB_saveAct d) (Nat.le_of_ble_eq_true rfl) (Or.inl ⟨10, ((o_r0_10).mono hn1), rfl⟩) h ?_
    rintro _ μ2 ⟨rfl, h⟩ hn2
    show G Γ m_FB_put (d + 1) (0, 0) Q 19 [.ref r0, .int x1, .int x2, .int x3] [] μ2
    obtain ⟨ea3, h⟩ := h
    refine run_ok (pc' := 27) [(.aload_n 0, 0, 0, 0), (.getfield 48, 10, 9, 2), (.iload_n 1, 0, 0, 0), (.iload_n 2, 0, 0, 0), (.iconst 0, 0, 0, 0), (.iload_n 3, 0, 0, 0)] _ _ _ _ (by decide +kernel) ?_
    show _ ∧ (∃ _, _ ∧ (_))
    refine ⟨(((o_r0_10).mono hn1).mono hn2), r0_9, ea3, ?_⟩
    show G Γ m_FB_put (d + 1) (0, 0) Q 27 [.ref r0, .int x1, .int x2, .int x3] [.int x3, .int (w 0), .int x2, .int x1, .ref r0_9] μ2
    refine g_ifz_eq (pc' := 40) (off := 13) (by decide) (by decide +kernel) (fun hc => ?_) (fun hc => ?_)
    · replace h := h.1 hc
      show G Γ m_FB_put (d + 1) (0, 0) Q 40 [.ref r0, .int x1, .int x2, .int x3] [.int (w 0), .int x2, .int x1, .ref r0_9] μ2
      refine run_ok (pc' := 41) [(.iconst (-1), 0, 0, 0)] _ _ _ _ (by decide +kernel) ?_
      show G Γ m_FB_put (d + 1) (0, 0) Q 41 [.ref r0, .int x1, .int x2, .int x3] [.int (w (-1)), .int (w 0), .int x2, .int x1, .ref r0_9] μ2
      refine g_invV (M' := m_Pi_push) (b1 := 0) (b2 := 0) (As := [.int x1, .int x2, .int (w 0), .int (w (-1))]) (a := r0_9) (st := []) lk_10_251 (by decide +kernel) rfl (dk_Pi_push d) (Nat.le_of_ble_eq_true rfl) (Or.inl ⟨6, (((o_r0_9_6).mono hn1).mono hn2), rfl⟩) h ?_
      rintro _ μ4 ⟨rfl, h⟩ hn4
      show G Γ m_FB_put (d + 1) (0, 0) Q 44 [.ref r0, .int x1, .int x2, .int x3] [] μ4
      obtain ⟨ea5, h⟩ := h
      refine run_ok (pc' := 51) [(.aload_n 0, 0, 0, 0), (.getfield 48, 10, 9, 2), (.getfield 223, 6, 4, 0)] _ _ _ _ (by decide +kernel) ?_
      show _ ∧ (∃ _, _ ∧ (_ ∧ (_)))
      refine ⟨((((o_r0_10).mono hn1).mono hn2).mono hn4), r0_9, ea5, ((((o_r0_9_6).mono hn1).mono hn2).mono hn4), ?_⟩
      show G Γ m_FB_put (d + 1) (0, 0) Q 51 [.ref r0, .int x1, .int x2, .int x3] [.int (xI μ4 r0_9 4)] μ4
      exact g_reti (by decide +kernel) rfl h
    · replace h := h.2 hc
      show G Γ m_FB_put (d + 1) (0, 0) Q 30 [.ref r0, .int x1, .int x2, .int x3] [.int (w 0), .int x2, .int x1, .ref r0_9] μ2
      refine run_ok (pc' := 41) [(.aload_n 0, 0, 0, 0), (.getfield 48, 10, 9, 2), (.getfield 209, 6, 5, 0), (.goto 4, 0, 0, 0)] _ _ _ _ (by decide +kernel) ?_
      show _ ∧ (∃ _, _ ∧ (_ ∧ (_)))
      refine ⟨(((o_r0_10).mono hn1).mono hn2), r0_9, ea3, (((o_r0_9_6).mono hn1).mono hn2), ?_⟩
      show G Γ m_FB_put (d + 1) (0, 0) Q 41 [.ref r0, .int x1, .int x2, .int x3] [.int (xI μ2 r0_9 5), .int (w 0), .int x2, .int x1, .ref r0_9] μ2
      refine g_invV (M' := m_Pi_push) (b1 := 0) (b2 := 0) (As := [.int x1, .int x2, .int (w 0), .int (xI μ2 r0_9 5)]) (a := r0_9) (st := []) lk_10_251 (by decide +kernel) rfl (dk_Pi_push d) (Nat.le_of_ble_eq_true rfl) (Or.inl ⟨6, (((o_r0_9_6).mono hn1).mono hn2), rfl⟩) h ?_
      rintro _ μ6 ⟨rfl, h⟩ hn6
      show G Γ m_FB_put (d + 1) (0, 0) Q 44 [.ref r0, .int x1, .int x2, .int x3] [] μ6
      obtain ⟨ea7, h⟩ := h
      refine run_ok (pc' := 51) [(.aload_n 0, 0, 0, 0), (.getfield 48, 10, 9, 2), (.getfield 223, 6, 4, 0)] _ _ _ _ (by decide +kernel) ?_
      show _ ∧ (∃ _, _ ∧ (_ ∧ (_)))
      refine ⟨((((o_r0_10).mono hn1).mono hn2).mono hn6), r0_9, ea7, ((((o_r0_9_6).mono hn1).mono hn2).mono hn6), ?_⟩
      show G Γ m_FB_put (d + 1) (0, 0) Q 51 [.ref r0, .int x1, .int x2, .int x3] [.int (xI μ6 r0_9 4)] μ6
      exact g_reti (by decide +kernel) rfl h
  · replace h := h.1 hc
    show G Γ m_FB_put (d + 1) (0, 0) Q 13 [.ref r0, .int x1, .int x2, .int x3] [] μ1
    refine run_ok (pc' := 14) [(.iconst (-1), 0, 0, 0)] _ _ _ _ (by decide +kernel) ?_
    show G Γ m_FB_put (d + 1) (0, 0) Q 14 [.ref r0, .int x1, .int x2, .int x3] [.int (w (-1))] μ1
    exact g_reti (by decide +kernel) rfl h
/-! FrostBox take(I)I -/
set_option maxRecDepth 100000 in
theorem lk_10_254 : LkV 10 254 m_FB_eatBox 1 := ⟨lc_FB_eatBox, lwG_in (List.mem_of_getElem? (i := 720) rfl) rfl, lwG_in (List.mem_of_getElem? (i := 722) rfl) rfl, lwG_in (List.mem_of_getElem? (i := 23) rfl) rfl⟩
set_option maxRecDepth 100000 in
theorem lk_10_176 : LkV 10 176 m_Pi_hasPlace 1 := ⟨lc_Pi_hasPlace, lwG_in (List.mem_of_getElem? (i := 712) rfl) rfl, lwG_in (List.mem_of_getElem? (i := 713) rfl) rfl, lwG_in (List.mem_of_getElem? (i := 714) rfl) rfl⟩
set_option maxRecDepth 100000 in
theorem B_FB_take_0 {Γ : XG} {d : Nat} {Q : Option Value → XM → Prop} {r0 r0_9 : Nat} {x1 : Int32} {μ : XM} (o_r0_10 : ob μ r0 10) (e_r0_9 : xR μ r0 9 = some r0_9) (o_r0_9_6 : ob μ r0_9 6) (h : Call Γ m_Pi_hasPlace d [.ref r0_9, .int x1] μ (KI (fun v1 μ1 => ((v1 = w 0 → Q (some (.int (w (-1)))) μ1) ∧ (¬ v1 = w 0 → Call Γ m_FB_saveAct d [.ref r0] μ1 (KV (fun μ2 => xR μ2 r0 9 = some r0_9 ∧ Call Γ m_Pi_indexOf d [.ref r0_9, .int x1] μ2 (KI (fun v4 μ4 => Call Γ m_FB_eatBox d [.ref r0, .int v4] μ4 (KI (fun v5 μ5 => Q (some (.int v5)) μ5))))))))))) : G Γ m_FB_take (d + 1) (0, 0) Q 0 [.ref r0, .int x1] [] μ := by
  refine run_ok (pc' := 5) [(.aload_n 0, 0, 0, 0), (.getfield 48, 10, 9, 2), (.iload_n 1, 0, 0, 0)] _ _ _ _ (by decide +kernel) ?_
  show _ ∧ (∃ _, _ ∧ (_))
  refine ⟨o_r0_10, r0_9, e_r0_9, ?_⟩
  show G Γ m_FB_take (d + 1) (0, 0) Q 5 [.ref r0, .int x1] [.int x1, .ref r0_9] μ
  refine g_invV (M' := m_Pi_hasPlace) (b1 := 0) (b2 := 0) (As := [.int x1]) (a := r0_9) (st := []) lk_10_176 (by decide +kernel) rfl (dk_Pi_hasPlace d) (Nat.le_of_ble_eq_true rfl) (Or.inl ⟨6, o_r0_9_6, rfl⟩) h ?_
  rintro _ μ1 ⟨v1, rfl, h⟩ hn1
  show G Γ m_FB_take (d + 1) (0, 0) Q 8 [.ref r0, .int x1] [.int v1] μ1
  refine g_ifz_ne (pc' := 13) (off := 5) (by decide) (by decide +kernel) (fun hc => ?_) (fun hc => ?_)
  · replace h := h.2 hc
    show G Γ m_FB_take (d + 1) (0, 0) Q 13 [.ref r0, .int x1] [] μ1
    refine run_ok (pc' := 14) [(.aload_n 0, 0, 0, 0)] _ _ _ _ (by decide +kernel) ?_
    show G Γ m_FB_take (d + 1) (0, 0) Q 14 [.ref r0, .int x1] [.ref r0] μ1
    refine g_invV (M' := m_FB_saveAct) (b1 := 0) (b2 := 0) (As := []) (a := r0) (st := []) lk_10_248 (by decide +kernel) rfl (dk_FB_saveAct d) (Nat.le_of_ble_eq_true rfl) (Or.inl ⟨10, ((o_r0_10).mono hn1), rfl⟩) h ?_
    rintro _ μ2 ⟨rfl, h⟩ hn2
    show G Γ m_FB_take (d + 1) (0, 0) Q 17 [.ref r0, .int x1] [] μ2
    obtain ⟨ea3, h⟩ := h
    refine run_ok (pc' := 23) [(.aload_n 0, 0, 0, 0), (.aload_n 0, 0, 0, 0), (.getfield 48, 10, 9, 2), (.iload_n 1, 0, 0, 0)] _ _ _ _ (by decide +kernel) ?_
    show _ ∧ (∃ _, _ ∧ (_))
    refine ⟨(((o_r0_10).mono hn1).mono hn2), r0_9, ea3, ?_⟩
    show G Γ m_FB_take (d + 1) (0, 0) Q 23 [.ref r0, .int x1] [.int x1, .ref r0_9, .ref r0] μ2
    refine g_invV (M' := m_Pi_indexOf) (b1 := 0) (b2 := 0) (As := [.int x1]) (a := r0_9) (st := [.ref r0]) lk_10_182 (by decide +kernel) rfl (dk_Pi_indexOf d) (Nat.le_of_ble_eq_true rfl) (Or.inl ⟨6, (((o_r0_9_6).mono hn1).mono hn2), rfl⟩) h ?_
    rintro _ μ4 ⟨v4, rfl, h⟩ hn4
    show G Γ m_FB_take (d + 1) (0, 0) Q 26 [.ref r0, .int x1] [.int v4, .ref r0] μ4
    refine g_invV (M' := m_FB_eatBox) (b1 := 0) (b2 := 0) (As := [.int v4]) (a := r0) (st := []) lk_10_254 (by decide +kernel) rfl (dk_FB_eatBox d) (Nat.le_of_ble_eq_true rfl) (Or.inl ⟨10, ((((o_r0_10).mono hn1).mono hn2).mono hn4), rfl⟩) h ?_
    rintro _ μ5 ⟨v5, rfl, h⟩ hn5
    show G Γ m_FB_take (d + 1) (0, 0) Q 29 [.ref r0, .int x1] [.int v5] μ5
    exact g_reti (by decide +kernel) rfl h
  · replace h := h.1 hc
    show G Γ m_FB_take (d + 1) (0, 0) Q 11 [.ref r0, .int x1] [] μ1
    refine run_ok (pc' := 12) [(.iconst (-1), 0, 0, 0)] _ _ _ _ (by decide +kernel) ?_
    show G Γ m_FB_take (d + 1) (0, 0) Q 12 [.ref r0, .int x1] [.int (w (-1))] μ1
    exact g_reti (by decide +kernel) rfl h
/-! FrostBox label(I)Z -/
set_option maxRecDepth 100000 in
theorem lk_10_257 : LkV 10 257 m_Pi_putLabel 1 := ⟨lc_Pi_putLabel, lwG_in (List.mem_of_getElem? (i := 767) rfl) rfl, lwG_in (List.mem_of_getElem? (i := 768) rfl) rfl, lwG_in (List.mem_of_getElem? (i := 769) rfl) rfl⟩
set_option maxRecDepth 100000 in
theorem lk_10_193 : LkV 10 193 m_Pi_hasLabel 1 := ⟨lc_Pi_hasLabel, lwG_in (List.mem_of_getElem? (i := 763) rfl) rfl, lwG_in (List.mem_of_getElem? (i := 764) rfl) rfl, lwG_in (List.mem_of_getElem? (i := 765) rfl) rfl⟩
set_option maxRecDepth 100000 in
theorem B_FB_label_0 {Γ : XG} {d : Nat} {Q : Option Value → XM → Prop} {r0 r0_9 : Nat} {x1 : Int32} {μ : XM} (o_r0_10 : ob μ r0 10) (e_r0_9 : xR μ r0 9 = some r0_9) (o_r0_9_6 : ob μ r0_9 6) (h : Call Γ m_Pi_hasPlace d [.ref r0_9, .int x1] μ (KI (fun v1 μ1 => ((v1 = w 0 → Q (some (.int (w 0))) μ1) ∧ (¬ v1 = w 0 → xR μ1 r0 9 = some r0_9 ∧ Call Γ m_Pi_indexOf d [.ref r0_9, .int x1] μ1 (KI (fun v3 μ3 => Call Γ m_Pi_hasLabel d [.ref r0_9, .int v3] μ3 (KI (fun v4 μ4 => ((v4 = w 0 → Call Γ m_FB_saveAct d [.ref r0] μ4 (KV (fun μ5 => xR μ5 r0 9 = some r0_9 ∧ Call Γ m_Pi_indexOf d [.ref r0_9, .int x1] μ5 (KI (fun v7 μ7 => Call Γ m_Pi_putLabel d [.ref r0_9, .int v7] μ7 (KV (fun μ8 => Q (some (.int (w 1))) μ8))))))) ∧ (¬ v4 = w 0 → Q (some (.int (w 0))) μ4))))))))))) : G Γ m_FB_label (d + 1) (0, 0) Q 0 [.ref r0, .int x1] [] μ := by
  refine run_ok (pc' := 5) [(.aload_n 0, 0, 0, 0), (.getfield 48, 10, 9, 2), (.iload_n 1, 0, 0, 0)] _ _ _ _ (by decide +kernel) ?_
  show _ ∧ (∃ _, _ ∧ (_))
  refine ⟨o_r0_10, r0_9, e_r0_9, ?_⟩
  show G Γ m_FB_label (d + 1) (0, 0) Q 5 [.ref r0, .int x1] [.int x1, .ref r0_9] μ
  refine g_invV (M' := m_Pi_hasPlace) (b1 := 0) (b2 := 0) (As := [.int x1]) (a := r0_9) (st := []) lk_10_176 (by decide +kernel) rfl (dk_Pi_hasPlace d) (Nat.le_of_ble_eq_true rfl) (Or.inl ⟨6, o_r0_9_6, rfl⟩) h ?_
  rintro _ μ1 ⟨v1, rfl, h⟩ hn1
  show G Γ m_FB_label (d + 1) (0, 0) Q 8 [.ref r0, .int x1] [.int v1] μ1
  refine g_ifz_eq (pc' := 29) (off := 21) (by decide) (by decide +kernel) (fun hc => ?_) (fun hc => ?_)
  · replace h := h.1 hc
    show G Γ m_FB_label (d + 1) (0, 0) Q 29 [.ref r0, .int x1] [] μ1
    refine run_ok (pc' := 30) [(.iconst 0, 0, 0, 0)] _ _ _ _ (by decide +kernel) ?_
    show G Γ m_FB_label (d + 1) (0, 0) Q 30 [.ref r0, .int x1] [.int (w 0)] μ1
    exact g_retz (by decide +kernel) rfl (Or.inl rfl) h
  · replace h := h.2 hc
    show G Γ m_FB_label (d + 1) (0, 0) Q 11 [.ref r0, .int x1] [] μ1
    obtain ⟨ea2, h⟩ := h
    refine run_ok (pc' := 20) [(.aload_n 0, 0, 0, 0), (.getfield 48, 10, 9, 2), (.aload_n 0, 0, 0, 0), (.getfield 48, 10, 9, 2), (.iload_n 1, 0, 0, 0)] _ _ _ _ (by decide +kernel) ?_
    show _ ∧ (∃ _, _ ∧ (_ ∧ (∃ _, _ ∧ (_))))
    refine ⟨((o_r0_10).mono hn1), r0_9, ea2, ((o_r0_10).mono hn1), r0_9, ea2, ?_⟩
    show G Γ m_FB_label (d + 1) (0, 0) Q 20 [.ref r0, .int x1] [.int x1, .ref r0_9, .ref r0_9] μ1
    refine g_invV (M' := m_Pi_indexOf) (b1 := 0) (b2 := 0) (As := [.int x1]) (a := r0_9) (st := [.ref r0_9]) lk_10_182 (by decide +kernel) rfl (dk_Pi_indexOf d) (Nat.le_of_ble_eq_true rfl) (Or.inl ⟨6, ((o_r0_9_6).mono hn1), rfl⟩) h ?_
    rintro _ μ3 ⟨v3, rfl, h⟩ hn3
    show G Γ m_FB_label (d + 1) (0, 0) Q 23 [.ref r0, .int x1] [.int v3, .ref r0_9] μ3
    refine g_invV (M' := m_Pi_hasLabel) (b1 := 0) (b2 := 0) (As := [.int v3]) (a := r0_9) (st := []) lk_10_193 (by decide +kernel) rfl (dk_Pi_hasLabel d) (Nat.le_of_ble_eq_true rfl) (Or.inl ⟨6, (((o_r0_9_6).mono hn1).mono hn3), rfl⟩) h ?_
    rintro _ μ4 ⟨v4, rfl, h⟩ hn4
    show G Γ m_FB_label (d + 1) (0, 0) Q 26 [.ref r0, .int x1] [.int v4] μ4
    refine g_ifz_eq (pc' := 31) (off := 5) (by decide) (by decide +kernel) (fun hc => ?_) (fun hc => ?_)
    · replace h := h.1 hc
      show G Γ m_FB_label (d + 1) (0, 0) Q 31 [.ref r0, .int x1] [] μ4
      refine run_ok (pc' := 32) [(.aload_n 0, 0, 0, 0)] _ _ _ _ (by decide +kernel) ?_
      show G Γ m_FB_label (d + 1) (0, 0) Q 32 [.ref r0, .int x1] [.ref r0] μ4
      refine g_invV (M' := m_FB_saveAct) (b1 := 0) (b2 := 0) (As := []) (a := r0) (st := []) lk_10_248 (by decide +kernel) rfl (dk_FB_saveAct d) (Nat.le_of_ble_eq_true rfl) (Or.inl ⟨10, ((((o_r0_10).mono hn1).mono hn3).mono hn4), rfl⟩) h ?_
      rintro _ μ5 ⟨rfl, h⟩ hn5
      show G Γ m_FB_label (d + 1) (0, 0) Q 35 [.ref r0, .int x1] [] μ5
      obtain ⟨ea6, h⟩ := h
      refine run_ok (pc' := 44) [(.aload_n 0, 0, 0, 0), (.getfield 48, 10, 9, 2), (.aload_n 0, 0, 0, 0), (.getfield 48, 10, 9, 2), (.iload_n 1, 0, 0, 0)] _ _ _ _ (by decide +kernel) ?_
      show _ ∧ (∃ _, _ ∧ (_ ∧ (∃ _, _ ∧ (_))))
      refine ⟨(((((o_r0_10).mono hn1).mono hn3).mono hn4).mono hn5), r0_9, ea6, (((((o_r0_10).mono hn1).mono hn3).mono hn4).mono hn5), r0_9, ea6, ?_⟩
      show G Γ m_FB_label (d + 1) (0, 0) Q 44 [.ref r0, .int x1] [.int x1, .ref r0_9, .ref r0_9] μ5
      refine g_invV (M' := m_Pi_indexOf) (b1 := 0) (b2 := 0) (As := [.int x1]) (a := r0_9) (st := [.ref r0_9]) lk_10_182 (by decide +kernel) rfl (dk_Pi_indexOf d) (Nat.le_of_ble_eq_true rfl) (Or.inl ⟨6, (((((o_r0_9_6).mono hn1).mono hn3).mono hn4).mono hn5), rfl⟩) h ?_
      rintro _ μ7 ⟨v7, rfl, h⟩ hn7
      show G Γ m_FB_label (d + 1) (0, 0) Q 47 [.ref r0, .int x1] [.int v7, .ref r0_9] μ7
      refine g_invV (M' := m_Pi_putLabel) (b1 := 0) (b2 := 0) (As := [.int v7]) (a := r0_9) (st := []) lk_10_257 (by decide +kernel) rfl (dk_Pi_putLabel d) (Nat.le_of_ble_eq_true rfl) (Or.inl ⟨6, ((((((o_r0_9_6).mono hn1).mono hn3).mono hn4).mono hn5).mono hn7), rfl⟩) h ?_
      rintro _ μ8 ⟨rfl, h⟩ hn8
      show G Γ m_FB_label (d + 1) (0, 0) Q 50 [.ref r0, .int x1] [] μ8
      refine run_ok (pc' := 51) [(.iconst 1, 0, 0, 0)] _ _ _ _ (by decide +kernel) ?_
      show G Γ m_FB_label (d + 1) (0, 0) Q 51 [.ref r0, .int x1] [.int (w 1)] μ8
      exact g_retz (by decide +kernel) rfl (Or.inr rfl) h
    · replace h := h.2 hc
      show G Γ m_FB_label (d + 1) (0, 0) Q 29 [.ref r0, .int x1] [] μ4
      refine run_ok (pc' := 30) [(.iconst 0, 0, 0, 0)] _ _ _ _ (by decide +kernel) ?_
      show G Γ m_FB_label (d + 1) (0, 0) Q 30 [.ref r0, .int x1] [.int (w 0)] μ4
      exact g_retz (by decide +kernel) rfl (Or.inl rfl) h
