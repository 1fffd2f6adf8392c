/-! FrostBoxModel thrown()I -/
set_option maxRecDepth 100000 in
theorem B_MO_thrown_0 {Γ : XG} {d : Nat} {Q : Option Value → XM → Prop} {r0 : Nat} {μ : XM} (o_r0_11 : ob μ r0 11) (h : Q (some (.int (xI μ r0 0))) μ) : G Γ m_MO_thrown (d + 1) (0, 0) Q 0 [.ref r0] [] μ := by
  refine run_ok (pc' := 4) [(.aload_n 0, 0, 0, 0), (.getfield 109, 11, 0, 0)] _ _ _ _ (by decide +kernel) ?_
  show _ ∧ (_)
  refine ⟨o_r0_11, ?_⟩
  show G Γ m_MO_thrown (d + 1) (0, 0) Q 4 [.ref r0] [.int (xI μ r0 0)] μ
  exact g_reti (by decide +kernel) rfl h
/-! FrostBoxModel isIn(JJJ)Z -/
set_option maxRecDepth 100000 in
theorem B_MO_isIn_0 {Γ : XG} {d : Nat} {Q : Option Value → XM → Prop} {y0 y2 y4 : Int64} {μ : XM}  (h : ((lg_cmp y0 y2 < w 0 → Q (some (.int (w 0))) μ) ∧ (¬ lg_cmp y0 y2 < w 0 → ((w 0 < lg_cmp y0 y4 → Q (some (.int (w 0))) μ) ∧ (¬ w 0 < lg_cmp y0 y4 → Q (some (.int (w 1))) μ))))) : G Γ m_MO_isIn (d + 1) (0, 0) Q 0 [.long y0, jk, .long y2, jk, .long y4, jk] [] μ := by
  refine run_ok (pc' := 3) [(.lload_n 0, 0, 0, 0), (.lload_n 2, 0, 0, 0), (.lcmp, 0, 0, 0)] _ _ _ _ (by decide +kernel) ?_
  show G Γ m_MO_isIn (d + 1) (0, 0) Q 3 [.long y0, jk, .long y2, jk, .long y4, jk] [.int (lg_cmp y0 y2)] μ
  refine g_ifz_lt (pc' := 17) (off := 14) (by decide) (by decide +kernel) (fun hc => ?_) (fun hc => ?_)
  · replace h := h.1 hc
    show G Γ m_MO_isIn (d + 1) (0, 0) Q 17 [.long y0, jk, .long y2, jk, .long y4, jk] [] μ
    refine run_ok (pc' := 18) [(.iconst 0, 0, 0, 0)] _ _ _ _ (by decide +kernel) ?_
    show G Γ m_MO_isIn (d + 1) (0, 0) Q 18 [.long y0, jk, .long y2, jk, .long y4, jk] [.int (w 0)] μ
    exact g_retz (by decide +kernel) rfl (Or.inl rfl) h
  · replace h := h.2 hc
    show G Γ m_MO_isIn (d + 1) (0, 0) Q 6 [.long y0, jk, .long y2, jk, .long y4, jk] [] μ
    refine run_ok (pc' := 10) [(.lload_n 0, 0, 0, 0), (.lload 4, 0, 0, 0), (.lcmp, 0, 0, 0)] _ _ _ _ (by decide +kernel) ?_
    show G Γ m_MO_isIn (d + 1) (0, 0) Q 10 [.long y0, jk, .long y2, jk, .long y4, jk] [.int (lg_cmp y0 y4)] μ
    refine g_ifz_gt (pc' := 17) (off := 7) (by decide) (by decide +kernel) (fun hc => ?_) (fun hc => ?_)
    · replace h := h.1 hc
      show G Γ m_MO_isIn (d + 1) (0, 0) Q 17 [.long y0, jk, .long y2, jk, .long y4, jk] [] μ
      refine run_ok (pc' := 18) [(.iconst 0, 0, 0, 0)] _ _ _ _ (by decide +kernel) ?_
      show G Γ m_MO_isIn (d + 1) (0, 0) Q 18 [.long y0, jk, .long y2, jk, .long y4, jk] [.int (w 0)] μ
      exact g_retz (by decide +kernel) rfl (Or.inl rfl) h
    · replace h := h.2 hc
      show G Γ m_MO_isIn (d + 1) (0, 0) Q 13 [.long y0, jk, .long y2, jk, .long y4, jk] [] μ
      refine run_ok (pc' := 18) [(.iconst 1, 0, 0, 0), (.goto 4, 0, 0, 0)] _ _ _ _ (by decide +kernel) ?_
      show G Γ m_MO_isIn (d + 1) (0, 0) Q 18 [.long y0, jk, .long y2, jk, .long y4, jk] [.int (w 1)] μ
      exact g_retz (by decide +kernel) rfl (Or.inr rfl) h
/-! FrostBoxModel has(II)Z -/
set_option maxRecDepth 100000 in
theorem B_MO_has_0 {Γ : XG} {d : Nat} {Q : Option Value → XM → Prop} {x0 x1 : Int32} {μ : XM}  (h : (((x0 >>> (x1 &&& 31)) &&& (w 1) = w 1 → Q (some (.int (w 1))) μ) ∧ (¬ (x0 >>> (x1 &&& 31)) &&& (w 1) = w 1 → Q (some (.int (w 0))) μ))) : G Γ m_MO_has (d + 1) (0, 0) Q 0 [.int x0, .int x1] [] μ := by
  refine run_ok (pc' := 6) [(.iload_n 0, 0, 0, 0), (.iload_n 1, 0, 0, 0), (.ishr, 0, 0, 0), (.iconst 1, 0, 0, 0), (.iand, 0, 0, 0), (.iconst 1, 0, 0, 0)] _ _ _ _ (by decide +kernel) ?_
  show G Γ m_MO_has (d + 1) (0, 0) Q 6 [.int x0, .int x1] [.int (w 1), .int ((x0 >>> (x1 &&& 31)) &&& (w 1))] μ
  refine g_icmp_ne (pc' := 13) (off := 7) (by decide) (by decide +kernel) (fun hc => ?_) (fun hc => ?_)
  · replace h := h.2 hc
    show G Γ m_MO_has (d + 1) (0, 0) Q 13 [.int x0, .int x1] [] μ
    refine run_ok (pc' := 14) [(.iconst 0, 0, 0, 0)] _ _ _ _ (by decide +kernel) ?_
    show G Γ m_MO_has (d + 1) (0, 0) Q 14 [.int x0, .int x1] [.int (w 0)] μ
    exact g_retz (by decide +kernel) rfl (Or.inl rfl) h
  · replace h := h.1 hc
    show G Γ m_MO_has (d + 1) (0, 0) Q 9 [.int x0, .int x1] [] μ
    refine run_ok (pc' := 14) [(.iconst 1, 0, 0, 0), (.goto 4, 0, 0, 0)] _ _ _ _ (by decide +kernel) ?_
    show G Γ m_MO_has (d + 1) (0, 0) Q 14 [.int x0, .int x1] [.int (w 1)] μ
    exact g_retz (by decide +kernel) rfl (Or.inr rfl) h
/-! FrostBoxModel isAmong(Ljava/lang/String;I)Z -/
set_option maxRecDepth 100000 in
theorem lk_11_118 : LkV 11 118 m_St_charAt 1 := ⟨lc_St_charAt, lwG_in (List.mem_of_getElem? (i := 1445) rfl) rfl, lwG_in (List.mem_of_getElem? (i := 1446) rfl) rfl, lwG_in (List.mem_of_getElem? (i := 1447) rfl) rfl⟩
set_option maxRecDepth 100000 in
theorem lk_11_112 : LkV 11 112 m_St_length 0 := ⟨lc_St_length, lwG_in (List.mem_of_getElem? (i := 1432) rfl) rfl, lwG_in (List.mem_of_getElem? (i := 1433) rfl) rfl, lwG_in (List.mem_of_getElem? (i := 1434) rfl) rfl⟩
set_option maxRecDepth 100000 in
theorem B_MO_isAmong_0 {Γ : XG} {d : Nat} {Q : Option Value → XM → Prop} {r0 : Nat} {x1 : Int32} {μ : XM}  (h : G Γ m_MO_isAmong (d + 1) (0, 0) Q 2 [.ref r0, .int x1, .int (w 0)] [] μ) : G Γ m_MO_isAmong (d + 1) (0, 0) Q 0 [.ref r0, .int x1] [] μ := by
  refine run_ok (pc' := 2) [(.iconst 0, 0, 0, 0), (.istore_n 2, 0, 0, 0)] _ _ _ _ (by decide +kernel) ?_
  show G Γ m_MO_isAmong (d + 1) (0, 0) Q 2 [.ref r0, .int x1, .int (w 0)] [] μ
  exact h
set_option maxRecDepth 100000 in
theorem B_MO_isAmong_2 {Γ : XG} {d : Nat} {Q : Option Value → XM → Prop} {r0 : Nat} {x1 x2 : Int32} {μ : XM}  (h : rcS r0 ∧ Call Γ m_St_length d [.ref r0] μ (KI (fun v1 μ1 => ((x2 < v1 → rcS r0 ∧ Call Γ m_St_charAt d [.ref r0, .int x2] μ1 (KI (fun v3 μ3 => ((v3 = x1 → Q (some (.int (w 1))) μ3) ∧ (¬ v3 = x1 → G Γ m_MO_isAmong (d + 1) (0, 0) Q 2 [.ref r0, .int x1, .int (x2 + w 1)] [] μ3))))) ∧ (¬ x2 < v1 → Q (some (.int (w 0))) μ1))))) : G Γ m_MO_isAmong (d + 1) (0, 0) Q 2 [.ref r0, .int x1, .int x2] [] μ := by
  refine run_ok (pc' := 4) [(.iload_n 2, 0, 0, 0), (.aload_n 0, 0, 0, 0)] _ _ _ _ (by decide +kernel) ?_
  show G Γ m_MO_isAmong (d + 1) (0, 0) Q 4 [.ref r0, .int x1, .int x2] [.ref r0, .int x2] μ
  obtain ⟨sr2, h⟩ := h
  refine g_invV (M' := m_St_length) (b1 := 0) (b2 := 0) (As := []) (a := r0) (st := [.int x2]) lk_11_112 (by decide +kernel) rfl (dk_St_length d) (Nat.le_of_ble_eq_true rfl) (rcS_ok sr2 rfl) h ?_
  rintro _ μ1 ⟨v1, rfl, h⟩ hn1
  show G Γ m_MO_isAmong (d + 1) (0, 0) Q 7 [.ref r0, .int x1, .int x2] [.int v1, .int x2] μ1
  refine g_icmp_ge (pc' := 27) (off := 20) (by decide) (by decide +kernel) (fun hc => ?_) (fun hc => ?_)
  · replace h := h.2 hc
    show G Γ m_MO_isAmong (d + 1) (0, 0) Q 27 [.ref r0, .int x1, .int x2] [] μ1
    refine run_ok (pc' := 28) [(.iconst 0, 0, 0, 0)] _ _ _ _ (by decide +kernel) ?_
    show G Γ m_MO_isAmong (d + 1) (0, 0) Q 28 [.ref r0, .int x1, .int x2] [.int (w 0)] μ1
    exact g_retz (by decide +kernel) rfl (Or.inl rfl) h
  · replace h := h.1 hc
    show G Γ m_MO_isAmong (d + 1) (0, 0) Q 10 [.ref r0, .int x1, .int x2] [] μ1
    refine run_ok (pc' := 12) [(.aload_n 0, 0, 0, 0), (.iload_n 2, 0, 0, 0)] _ _ _ _ (by decide +kernel) ?_
    show G Γ m_MO_isAmong (d + 1) (0, 0) Q 12 [.ref r0, .int x1, .int x2] [.int x2, .ref r0] μ1
    obtain ⟨sr4, h⟩ := h
    refine g_invV (M' := m_St_charAt) (b1 := 0) (b2 := 0) (As := [.int x2]) (a := r0) (st := []) lk_11_118 (by decide +kernel) rfl (dk_St_charAt d) (Nat.le_of_ble_eq_true rfl) (rcS_ok sr4 rfl) h ?_
    rintro _ μ3 ⟨v3, rfl, h⟩ hn3
    show G Γ m_MO_isAmong (d + 1) (0, 0) Q 15 [.ref r0, .int x1, .int x2] [.int v3] μ3
    refine run_ok (pc' := 16) [(.iload_n 1, 0, 0, 0)] _ _ _ _ (by decide +kernel) ?_
    show G Γ m_MO_isAmong (d + 1) (0, 0) Q 16 [.ref r0, .int x1, .int x2] [.int x1, .int v3] μ3
    refine g_icmp_ne (pc' := 21) (off := 5) (by decide) (by decide +kernel) (fun hc => ?_) (fun hc => ?_)
    · replace h := h.2 hc
      show G Γ m_MO_isAmong (d + 1) (0, 0) Q 21 [.ref r0, .int x1, .int x2] [] μ3
      refine run_ok (pc' := 2) [(.iinc 2 1, 0, 0, 0), (.goto (-22), 0, 0, 0)] _ _ _ _ (by decide +kernel) ?_
      show G Γ m_MO_isAmong (d + 1) (0, 0) Q 2 [.ref r0, .int x1, .int (x2 + w 1)] [] μ3
      exact h
    · replace h := h.1 hc
      show G Γ m_MO_isAmong (d + 1) (0, 0) Q 19 [.ref r0, .int x1, .int x2] [] μ3
      refine run_ok (pc' := 20) [(.iconst 1, 0, 0, 0)] _ _ _ _ (by decide +kernel) ?_
      show G Γ m_MO_isAmong (d + 1) (0, 0) Q 20 [.ref r0, .int x1, .int x2] [.int (w 1)] μ3
      exact g_retz (by decide +kernel) rfl (Or.inr rfl) h
/-! FrostBoxModel bytesIn(I)I -/
set_option maxRecDepth 100000 in
theorem B_MO_bytesIn_0 {Γ : XG} {d : Nat} {Q : Option Value → XM → Prop} {x0 : Int32} {μ : XM}  (h : G Γ m_MO_bytesIn (d + 1) (0, 0) Q 5 [.int x0, .int (w 0), .int (w 24)] [] μ) : G Γ m_MO_bytesIn (d + 1) (0, 0) Q 0 [.int x0] [] μ := by
  refine run_ok (pc' := 5) [(.iconst 0, 0, 0, 0), (.istore_n 1, 0, 0, 0), (.bipush 24, 0, 0, 0), (.istore_n 2, 0, 0, 0)] _ _ _ _ (by decide +kernel) ?_
  show G Γ m_MO_bytesIn (d + 1) (0, 0) Q 5 [.int x0, .int (w 0), .int (w 24)] [] μ
  exact h
set_option maxRecDepth 100000 in
theorem B_MO_bytesIn_5 {Γ : XG} {d : Nat} {Q : Option Value → XM → Prop} {x0 x1 x2 : Int32} {μ : XM}  (h : ((x2 < w 0 → Q (some (.int x1)) μ) ∧ (¬ x2 < w 0 → (((x0 >>> (x2 &&& 31)) &&& (w 255) = w 0 → G Γ m_MO_bytesIn (d + 1) (0, 0) Q 5 [.int x0, .int (x1 + (w 0)), .int (x2 + w (-8))] [] μ) ∧ (¬ (x0 >>> (x2 &&& 31)) &&& (w 255) = w 0 → G Γ m_MO_bytesIn (d + 1) (0, 0) Q 5 [.int x0, .int (x1 + (w 1)), .int (x2 + w (-8))] [] μ))))) : G Γ m_MO_bytesIn (d + 1) (0, 0) Q 5 [.int x0, .int x1, .int x2] [] μ := by
  refine run_ok (pc' := 6) [(.iload_n 2, 0, 0, 0)] _ _ _ _ (by decide +kernel) ?_
  show G Γ m_MO_bytesIn (d + 1) (0, 0) Q 6 [.int x0, .int x1, .int x2] [.int x2] μ
  refine g_ifz_lt (pc' := 33) (off := 27) (by decide) (by decide +kernel) (fun hc => ?_) (fun hc => ?_)
  · replace h := h.1 hc
    show G Γ m_MO_bytesIn (d + 1) (0, 0) Q 33 [.int x0, .int x1, .int x2] [] μ
    refine run_ok (pc' := 34) [(.iload_n 1, 0, 0, 0)] _ _ _ _ (by decide +kernel) ?_
    show G Γ m_MO_bytesIn (d + 1) (0, 0) Q 34 [.int x0, .int x1, .int x2] [.int x1] μ
    exact g_reti (by decide +kernel) rfl h
  · replace h := h.2 hc
    show G Γ m_MO_bytesIn (d + 1) (0, 0) Q 9 [.int x0, .int x1, .int x2] [] μ
    refine run_ok (pc' := 17) [(.iload_n 1, 0, 0, 0), (.iload_n 0, 0, 0, 0), (.iload_n 2, 0, 0, 0), (.ishr, 0, 0, 0), (.sipush 255, 0, 0, 0), (.iand, 0, 0, 0)] _ _ _ _ (by decide +kernel) ?_
    show G Γ m_MO_bytesIn (d + 1) (0, 0) Q 17 [.int x0, .int x1, .int x2] [.int ((x0 >>> (x2 &&& 31)) &&& (w 255)), .int x1] μ
    refine g_ifz_eq (pc' := 24) (off := 7) (by decide) (by decide +kernel) (fun hc => ?_) (fun hc => ?_)
    · replace h := h.1 hc
      show G Γ m_MO_bytesIn (d + 1) (0, 0) Q 24 [.int x0, .int x1, .int x2] [.int x1] μ
      refine run_ok (pc' := 5) [(.iconst 0, 0, 0, 0), (.iadd, 0, 0, 0), (.istore_n 1, 0, 0, 0), (.iinc 2 (-8), 0, 0, 0), (.goto (-25), 0, 0, 0)] _ _ _ _ (by decide +kernel) ?_
      show G Γ m_MO_bytesIn (d + 1) (0, 0) Q 5 [.int x0, .int (x1 + (w 0)), .int (x2 + w (-8))] [] μ
      exact h
    · replace h := h.2 hc
      show G Γ m_MO_bytesIn (d + 1) (0, 0) Q 20 [.int x0, .int x1, .int x2] [.int x1] μ
      refine run_ok (pc' := 5) [(.iconst 1, 0, 0, 0), (.goto 4, 0, 0, 0), (.iadd, 0, 0, 0), (.istore_n 1, 0, 0, 0), (.iinc 2 (-8), 0, 0, 0), (.goto (-25), 0, 0, 0)] _ _ _ _ (by decide +kernel) ?_
      show G Γ m_MO_bytesIn (d + 1) (0, 0) Q 5 [.int x0, .int (x1 + (w 1)), .int (x2 + w (-8))] [] μ
      exact h
/-! FrostBoxModel put(I)V -/
set_option maxRecDepth 100000 in
theorem B_MO_put1_0 {Γ : XG} {d : Nat} {Q : Option Value → XM → Prop} {r0 : Nat} {x1 : Int32} {μ : XM}  (h : G Γ m_MO_put1 (d + 1) (0, 0) Q 3 [.ref r0, .int x1, .int (w 24)] [] μ) : G Γ m_MO_put1 (d + 1) (0, 0) Q 0 [.ref r0, .int x1] [] μ := by
  refine run_ok (pc' := 3) [(.bipush 24, 0, 0, 0), (.istore_n 2, 0, 0, 0)] _ _ _ _ (by decide +kernel) ?_
  show G Γ m_MO_put1 (d + 1) (0, 0) Q 3 [.ref r0, .int x1, .int (w 24)] [] μ
  exact h
set_option maxRecDepth 100000 in
theorem B_MO_put1_3 {Γ : XG} {d : Nat} {Q : Option Value → XM → Prop} {r0 r0_1 : Nat} {x1 x2 : Int32} {μ : XM} (o_r0_11 : ob μ r0 11) (e_r0_1 : xR μ r0 1 = some r0_1) (h : ((x2 < w 0 → Q none μ) ∧ (¬ x2 < w 0 → (((x1 >>> (x2 &&& 31)) &&& (w 255) = w 0 → G Γ m_MO_put1 (d + 1) (0, 0) Q 3 [.ref r0, .int x1, .int (x2 + w (-8))] [] μ) ∧ (¬ (x1 >>> (x2 &&& 31)) &&& (w 255) = w 0 → inS μ 1 r0_1 (xI μ r0 6) ∧ ∀ μ2, μ2 = sI μ r0_1 (xI μ r0 6).toNatClampNeg (((x1 >>> (x2 &&& 31)).toInt8.toInt32).toInt8.toInt32) → ∀ μ3, μ3 = sI μ2 r0 6 ((xI μ2 r0 6) + (w 1)) → G Γ m_MO_put1 (d + 1) (0, 0) Q 3 [.ref r0, .int x1, .int (x2 + w (-8))] [] μ3))))) : G Γ m_MO_put1 (d + 1) (0, 0) Q 3 [.ref r0, .int x1, .int x2] [] μ := by
  refine run_ok (pc' := 4) [(.iload_n 2, 0, 0, 0)] _ _ _ _ (by decide +kernel) ?_
  show G Γ m_MO_put1 (d + 1) (0, 0) Q 4 [.ref r0, .int x1, .int x2] [.int x2] μ
  refine g_ifz_lt (pc' := 49) (off := 45) (by decide) (by decide +kernel) (fun hc => ?_) (fun hc => ?_)
  · replace h := h.1 hc
    show G Γ m_MO_put1 (d + 1) (0, 0) Q 49 [.ref r0, .int x1, .int x2] [] μ
    exact g_retv (by decide +kernel) rfl h
  · replace h := h.2 hc
    show G Γ m_MO_put1 (d + 1) (0, 0) Q 7 [.ref r0, .int x1, .int x2] [] μ
    refine run_ok (pc' := 14) [(.iload_n 1, 0, 0, 0), (.iload_n 2, 0, 0, 0), (.ishr, 0, 0, 0), (.sipush 255, 0, 0, 0), (.iand, 0, 0, 0)] _ _ _ _ (by decide +kernel) ?_
    show G Γ m_MO_put1 (d + 1) (0, 0) Q 14 [.ref r0, .int x1, .int x2] [.int ((x1 >>> (x2 &&& 31)) &&& (w 255))] μ
    refine g_ifz_ne (pc' := 20) (off := 6) (by decide) (by decide +kernel) (fun hc => ?_) (fun hc => ?_)
    · replace h := h.2 hc
      show G Γ m_MO_put1 (d + 1) (0, 0) Q 20 [.ref r0, .int x1, .int x2] [] μ
      obtain ⟨is1, h⟩ := h
      refine run_ok (pc' := 33) [(.aload_n 0, 0, 0, 0), (.getfield 9, 11, 1, 2), (.aload_n 0, 0, 0, 0), (.getfield 122, 11, 6, 0), (.iload_n 1, 0, 0, 0), (.iload_n 2, 0, 0, 0), (.ishr, 0, 0, 0), (.i2b, 0, 0, 0), (.bastore, 1, 0, 0)] _ _ _ _ (by decide +kernel) ?_
      show _ ∧ (∃ _, _ ∧ (_ ∧ (_ ∧ (_))))
      refine ⟨o_r0_11, r0_1, e_r0_1, o_r0_11, is1, ?_⟩
      show G Γ m_MO_put1 (d + 1) (0, 0) Q 33 [.ref r0, .int x1, .int x2] [] (sI μ r0_1 (xI μ r0 6).toNatClampNeg (((x1 >>> (x2 &&& 31)).toInt8.toInt32).toInt8.toInt32))
      obtain ⟨μ2, em2⟩ : ∃ m : XM, m = sI μ r0_1 (xI μ r0 6).toNatClampNeg (((x1 >>> (x2 &&& 31)).toInt8.toInt32).toInt8.toInt32) := ⟨_, rfl⟩
      replace h := h μ2 em2
      have hm2 : xN μ ≤ xN μ2 := by rw [em2]; exact Nat.le_refl _
      rw [← em2]
      refine run_ok (pc' := 43) [(.aload_n 0, 0, 0, 0), (.dup, 0, 0, 0), (.getfield 122, 11, 6, 0), (.iconst 1, 0, 0, 0), (.iadd, 0, 0, 0), (.putfield 122, 11, 6, 0)] _ _ _ _ (by decide +kernel) ?_
      show _ ∧ (_ ∧ (_))
      refine ⟨((o_r0_11).mono hm2), ((o_r0_11).mono hm2), ?_⟩
      show G Γ m_MO_put1 (d + 1) (0, 0) Q 43 [.ref r0, .int x1, .int x2] [] (sI μ2 r0 6 ((xI μ2 r0 6) + (w 1)))
      obtain ⟨μ3, em3⟩ : ∃ m : XM, m = sI μ2 r0 6 ((xI μ2 r0 6) + (w 1)) := ⟨_, rfl⟩
      replace h := h μ3 em3
      have hm3 : xN μ2 ≤ xN μ3 := by rw [em3]; exact Nat.le_refl _
      rw [← em3]
      refine run_ok (pc' := 3) [(.iinc 2 (-8), 0, 0, 0), (.goto (-43), 0, 0, 0)] _ _ _ _ (by decide +kernel) ?_
      show G Γ m_MO_put1 (d + 1) (0, 0) Q 3 [.ref r0, .int x1, .int (x2 + w (-8))] [] μ3
      exact h
    · replace h := h.1 hc
      show G Γ m_MO_put1 (d + 1) (0, 0) Q 17 [.ref r0, .int x1, .int x2] [] μ
      refine run_ok (pc' := 3) [(.goto 26, 0, 0, 0), (.iinc 2 (-8), 0, 0, 0), (.goto (-43), 0, 0, 0)] _ _ _ _ (by decide +kernel) ?_
      show G Γ m_MO_put1 (d + 1) (0, 0) Q 3 [.ref r0, .int x1, .int (x2 + w (-8))] [] μ
      exact h
/-! FrostBoxModel feed(IIIII)I -/
set_option maxRecDepth 100000 in
theorem lk_11_128 : LkV 11 128 m_MO_put1 1 := ⟨lc_MO_put1, lwG_in (List.mem_of_getElem? (i := 1388) rfl) rfl, lwG_in (List.mem_of_getElem? (i := 1390) rfl) rfl, lwG_in (List.mem_of_getElem? (i := 50) rfl) rfl⟩
set_option maxRecDepth 100000 in
theorem lk_11_124 : LkS 11 124 m_MO_bytesIn 1 := ⟨lc_MO_bytesIn, lwG_in (List.mem_of_getElem? (i := 1385) rfl) rfl, lwG_in (List.mem_of_getElem? (i := 1386) rfl) rfl⟩
set_option maxRecDepth 100000 in
theorem B_MO_feed_0 {Γ : XG} {d : Nat} {Q : Option Value → XM → Prop} {r0 : Nat} {x1 x2 x3 x4 x5 : Int32} {μ : XM} (o_r0_11 : ob μ r0 11) (h : ∀ μ1, μ1 = sI μ r0 0 (w 0) → Call Γ m_MO_bytesIn d [.int x1] μ1 (KI (fun v2 μ2 => Call Γ m_MO_bytesIn d [.int x2] μ2 (KI (fun v3 μ3 => Call Γ m_MO_bytesIn d [.int x3] μ3 (KI (fun v4 μ4 => Call Γ m_MO_bytesIn d [.int x4] μ4 (KI (fun v5 μ5 => Call Γ m_MO_bytesIn d [.int x5] μ5 (KI (fun v6 μ6 => ((w 240 < (((((xI μ1 r0 6) + v2) + v3) + v4) + v5) + v6 → Q (some (.int (w (-1)))) μ6) ∧ (¬ w 240 < (((((xI μ1 r0 6) + v2) + v3) + v4) + v5) + v6 → Call Γ m_MO_put1 d [.ref r0, .int x1] μ6 (KV (fun μ7 => Call Γ m_MO_put1 d [.ref r0, .int x2] μ7 (KV (fun μ8 => Call Γ m_MO_put1 d [.ref r0, .int x3] μ8 (KV (fun μ9 => Call Γ m_MO_put1 d [.ref r0, .int x4] μ9 (KV (fun μ10 => Call Γ m_MO_put1 d [.ref r0, .int x5] μ10 (KV (fun μ11 => Q (some (.int (xI μ11 r0 6))) μ11))))))))))))))))))))))) : G Γ m_MO_feed (d + 1) (0, 0) Q 0 [.ref r0, .int x1, .int x2, .int x3, .int x4, .int x5] [] μ := by
  refine run_ok (pc' := 5) [(.aload_n 0, 0, 0, 0), (.iconst 0, 0, 0, 0), (.putfield 109, 11, 0, 0)] _ _ _ _ (by decide +kernel) ?_
  show _ ∧ (_)
  refine ⟨o_r0_11, ?_⟩
  show G Γ m_MO_feed (d + 1) (0, 0) Q 5 [.ref r0, .int x1, .int x2, .int x3, .int x4, .int x5] [] (sI μ r0 0 (w 0))
  obtain ⟨μ1, em1⟩ : ∃ m : XM, m = sI μ r0 0 (w 0) := ⟨_, rfl⟩
  replace h := h μ1 em1
  have hm1 : xN μ ≤ xN μ1 := by rw [em1]; exact Nat.le_refl _
  rw [← em1]
  refine run_ok (pc' := 10) [(.aload_n 0, 0, 0, 0), (.getfield 122, 11, 6, 0), (.iload_n 1, 0, 0, 0)] _ _ _ _ (by decide +kernel) ?_
  show _ ∧ (_)
  refine ⟨((o_r0_11).mono hm1), ?_⟩
  show G Γ m_MO_feed (d + 1) (0, 0) Q 10 [.ref r0, .int x1, .int x2, .int x3, .int x4, .int x5] [.int x1, .int (xI μ1 r0 6)] μ1
  refine g_invS (M' := m_MO_bytesIn) (b1 := 0) (b2 := 0) (As := [.int x1]) (st := [.int (xI μ1 r0 6)]) lk_11_124 (by decide +kernel) rfl (dk_MO_bytesIn d) (Nat.le_of_ble_eq_true rfl) h ?_
  rintro _ μ2 ⟨v2, rfl, h⟩ hn2
  show G Γ m_MO_feed (d + 1) (0, 0) Q 13 [.ref r0, .int x1, .int x2, .int x3, .int x4, .int x5] [.int v2, .int (xI μ1 r0 6)] μ2
  refine run_ok (pc' := 15) [(.iadd, 0, 0, 0), (.iload_n 2, 0, 0, 0)] _ _ _ _ (by decide +kernel) ?_
  show G Γ m_MO_feed (d + 1) (0, 0) Q 15 [.ref r0, .int x1, .int x2, .int x3, .int x4, .int x5] [.int x2, .int ((xI μ1 r0 6) + v2)] μ2
  refine g_invS (M' := m_MO_bytesIn) (b1 := 0) (b2 := 0) (As := [.int x2]) (st := [.int ((xI μ1 r0 6) + v2)]) lk_11_124 (by decide +kernel) rfl (dk_MO_bytesIn d) (Nat.le_of_ble_eq_true rfl) h ?_
  rintro _ μ3 ⟨v3, rfl, h⟩ hn3
  show G Γ m_MO_feed (d + 1) (0, 0) Q 18 [.ref r0, .int x1, .int x2, .int x3, .int x4, .int x5] [.int v3, .int ((xI μ1 r0 6) + v2)] μ3
  refine run_ok (pc' := 20) [(.iadd, 0, 0, 0), (.iload_n 3, 0, 0, 0)] _ _ _ _ (by decide +kernel) ?_
  show G Γ m_MO_feed (d + 1) (0, 0) Q 20 [.ref r0, .int x1, .int x2, .int x3, .int x4, .int x5] [.int x3, .int (((xI μ1 r0 6) + v2) + v3)] μ3
  refine g_invS (M' := m_MO_bytesIn) (b1 := 0) (b2 := 0) (As := [.int x3]) (st := [.int (((xI μ1 r0 6) + v2) + v3)]) lk_11_124 (by decide +kernel) rfl (dk_MO_bytesIn d) (Nat.le_of_ble_eq_true rfl) h ?_
  rintro _ μ4 ⟨v4, rfl, h⟩ hn4
  show G Γ m_MO_feed (d + 1) (0, 0) Q 23 [.ref r0, .int x1, .int x2, .int x3, .int x4, .int x5] [.int v4, .int (((xI μ1 r0 6) + v2) + v3)] μ4
  refine run_ok (pc' := 26) [(.iadd, 0, 0, 0), (.iload 4, 0, 0, 0)] _ _ _ _ (by decide +kernel) ?_
  show G Γ m_MO_feed (d + 1) (0, 0) Q 26 [.ref r0, .int x1, .int x2, .int x3, .int x4, .int x5] [.int x4, .int ((((xI μ1 r0 6) + v2) + v3) + v4)] μ4
  refine g_invS (M' := m_MO_bytesIn) (b1 := 0) (b2 := 0) (As := [.int x4]) (st := [.int ((((xI μ1 r0 6) + v2) + v3) + v4)]) lk_11_124 (by decide +kernel) rfl (dk_MO_bytesIn d) (Nat.le_of_ble_eq_true rfl) h ?_
  rintro _ μ5 ⟨v5, rfl, h⟩ hn5
  show G Γ m_MO_feed (d + 1) (0, 0) Q 29 [.ref r0, .int x1, .int x2, .int x3, .int x4, .int x5] [.int v5, .int ((((xI μ1 r0 6) + v2) + v3) + v4)] μ5
  refine run_ok (pc' := 32) [(.iadd, 0, 0, 0), (.iload 5, 0, 0, 0)] _ _ _ _ (by decide +kernel) ?_
  show G Γ m_MO_feed (d + 1) (0, 0) Q 32 [.ref r0, .int x1, .int x2, .int x3, .int x4, .int x5] [.int x5, .int (((((xI μ1 r0 6) + v2) + v3) + v4) + v5)] μ5
  refine g_invS (M' := m_MO_bytesIn) (b1 := 0) (b2 := 0) (As := [.int x5]) (st := [.int (((((xI μ1 r0 6) + v2) + v3) + v4) + v5)]) lk_11_124 (by decide +kernel) rfl (dk_MO_bytesIn d) (Nat.le_of_ble_eq_true rfl) h ?_
  rintro _ μ6 ⟨v6, rfl, h⟩ hn6
  show G Γ m_MO_feed (d + 1) (0, 0) Q 35 [.ref r0, .int x1, .int x2, .int x3, .int x4, .int x5] [.int v6, .int (((((xI μ1 r0 6) + v2) + v3) + v4) + v5)] μ6
  refine run_ok (pc' := 39) [(.iadd, 0, 0, 0), (.sipush 240, 0, 0, 0)] _ _ _ _ (by decide +kernel) ?_
  show G Γ m_MO_feed (d + 1) (0, 0) Q 39 [.ref r0, .int x1, .int x2, .int x3, .int x4, .int x5] [.int (w 240), .int ((((((xI μ1 r0 6) + v2) + v3) + v4) + v5) + v6)] μ6
  refine g_icmp_le (pc' := 44) (off := 5) (by decide) (by decide +kernel) (fun hc => ?_) (fun hc => ?_)
  · replace h := h.2 hc
    show G Γ m_MO_feed (d + 1) (0, 0) Q 44 [.ref r0, .int x1, .int x2, .int x3, .int x4, .int x5] [] μ6
    refine run_ok (pc' := 46) [(.aload_n 0, 0, 0, 0), (.iload_n 1, 0, 0, 0)] _ _ _ _ (by decide +kernel) ?_
    show G Γ m_MO_feed (d + 1) (0, 0) Q 46 [.ref r0, .int x1, .int x2, .int x3, .int x4, .int x5] [.int x1, .ref r0] μ6
    refine g_invV (M' := m_MO_put1) (b1 := 0) (b2 := 0) (As := [.int x1]) (a := r0) (st := []) lk_11_128 (by decide +kernel) rfl (dk_MO_put1 d) (Nat.le_of_ble_eq_true rfl) (Or.inl ⟨11, (((((((o_r0_11).mono hm1).mono hn2).mono hn3).mono hn4).mono hn5).mono hn6), rfl⟩) h ?_
    rintro _ μ7 ⟨rfl, h⟩ hn7
    show G Γ m_MO_feed (d + 1) (0, 0) Q 49 [.ref r0, .int x1, .int x2, .int x3, .int x4, .int x5] [] μ7
    refine run_ok (pc' := 51) [(.aload_n 0, 0, 0, 0), (.iload_n 2, 0, 0, 0)] _ _ _ _ (by decide +kernel) ?_
    show G Γ m_MO_feed (d + 1) (0, 0) Q 51 [.ref r0, .int x1, .int x2, .int x3, .int x4, .int x5] [.int x2, .ref r0] μ7
    refine g_invV (M' := m_MO_put1) (b1 := 0) (b2 := 0) (As := [.int x2]) (a := r0) (st := []) lk_11_128 (by decide +kernel) rfl (dk_MO_put1 d) (Nat.le_of_ble_eq_true rfl) (Or.inl ⟨11, ((((((((o_r0_11).mono hm1).mono hn2).mono hn3).mono hn4).mono hn5).mono hn6).mono hn7), rfl⟩) h ?_
    rintro _ μ8 ⟨rfl, h⟩ hn8
    show G Γ m_MO_feed (d + 1) (0, 0) Q 54 [.ref r0, .int x1, .int x2, .int x3, .int x4, .int x5] [] μ8
    refine run_ok (pc' := 56) [(.aload_n 0, 0, 0, 0), (.iload_n 3, 0, 0, 0)] _ _ _ _ (by decide +kernel) ?_
    show G Γ m_MO_feed (d + 1) (0, 0) Q 56 [.ref r0, .int x1, .int x2, .int x3, .int x4, .int x5] [.int x3, .ref r0] μ8
    refine g_invV (M' := m_MO_put1) (b1 := 0) (b2 := 0) (As := [.int x3]) (a := r0) (st := []) lk_11_128 (by decide +kernel) rfl (dk_MO_put1 d) (Nat.le_of_ble_eq_true rfl) (Or.inl ⟨11, (((((((((o_r0_11).mono hm1).mono hn2).mono hn3).mono hn4).mono hn5).mono hn6).mono hn7).mono hn8), rfl⟩) h ?_
    rintro _ μ9 ⟨rfl, h⟩ hn9
    show G Γ m_MO_feed (d + 1) (0, 0) Q 59 [.ref r0, .int x1, .int x2, .int x3, .int x4, .int x5] [] μ9
    refine run_ok (pc' := 62) [(.aload_n 0, 0, 0, 0), (.iload 4, 0, 0, 0)] _ _ _ _ (by decide +kernel) ?_
    show G Γ m_MO_feed (d + 1) (0, 0) Q 62 [.ref r0, .int x1, .int x2, .int x3, .int x4, .int x5] [.int x4, .ref r0] μ9
    refine g_invV (M' := m_MO_put1) (b1 := 0) (b2 := 0) (As := [.int x4]) (a := r0) (st := []) lk_11_128 (by decide +kernel) rfl (dk_MO_put1 d) (Nat.le_of_ble_eq_true rfl) (Or.inl ⟨11, ((((((((((o_r0_11).mono hm1).mono hn2).mono hn3).mono hn4).mono hn5).mono hn6).mono hn7).mono hn8).mono hn9), rfl⟩) h ?_
    rintro _ μ10 ⟨rfl, h⟩ hn10
    show G Γ m_MO_feed (d + 1) (0, 0) Q 65 [.ref r0, .int x1, .int x2, .int x3, .int x4, .int x5] [] μ10
    refine run_ok (pc' := 68) [(.aload_n 0, 0, 0, 0), (.iload 5, 0, 0, 0)] _ _ _ _ (by decide +kernel) ?_
    show G Γ m_MO_feed (d + 1) (0, 0) Q 68 [.ref r0, .int x1, .int x2, .int x3, .int x4, .int x5] [.int x5, .ref r0] μ10
    refine g_invV (M' := m_MO_put1) (b1 := 0) (b2 := 0) (As := [.int x5]) (a := r0) (st := []) lk_11_128 (by decide +kernel) rfl (dk_MO_put1 d) (Nat.le_of_ble_eq_true rfl) (Or.inl ⟨11, (((((((((((o_r0_11).mono hm1).mono hn2).mono hn3).mono hn4).mono hn5).mono hn6).mono hn7).mono hn8).mono hn9).mono hn10), rfl⟩) h ?_
    rintro _ μ11 ⟨rfl, h⟩ hn11
    show G Γ m_MO_feed (d + 1) (0, 0) Q 71 [.ref r0, .int x1, .int x2, .int x3, .int x4, .int x5] [] μ11
    refine run_ok (pc' := 75) [(.aload_n 0, 0, 0, 0), (.getfield 122, 11, 6, 0)] _ _ _ _ (by decide +kernel) ?_
    show _ ∧ (_)
    refine ⟨((((((((((((o_r0_11).mono hm1).mono hn2).mono hn3).mono hn4).mono hn5).mono hn6).mono hn7).mono hn8).mono hn9).mono hn10).mono hn11), ?_⟩
    show G Γ m_MO_feed (d + 1) (0, 0) Q 75 [.ref r0, .int x1, .int x2, .int x3, .int x4, .int x5] [.int (xI μ11 r0 6)] μ11
    exact g_reti (by decide +kernel) rfl h
  · replace h := h.1 hc
    show G Γ m_MO_feed (d + 1) (0, 0) Q 42 [.ref r0, .int x1, .int x2, .int x3, .int x4, .int x5] [] μ6
    refine run_ok (pc' := 43) [(.iconst (-1), 0, 0, 0)] _ _ _ _ (by decide +kernel) ?_
    show G Γ m_MO_feed (d + 1) (0, 0) Q 43 [.ref r0, .int x1, .int x2, .int x3, .int x4, .int x5] [.int (w (-1))] μ6
    exact g_reti (by decide +kernel) rfl h
/-! FrostBoxModel end(I)Z -/
set_option maxRecDepth 100000 in
theorem B_MO_end_0 {Γ : XG} {d : Nat} {Q : Option Value → XM → Prop} {r0 : Nat} {x1 : Int32} {μ : XM} (o_r0_11 : ob μ r0 11) (h : ∀ μ1, μ1 = sI μ r0 0 (w 0) → ((x1 < w 0 → Q (some (.int (w 0))) μ1) ∧ (¬ x1 < w 0 → ((xI μ1 r0 6 < x1 → Q (some (.int (w 0))) μ1) ∧ (¬ xI μ1 r0 6 < x1 → ∀ μ2, μ2 = sI μ1 r0 6 x1 → Q (some (.int (w 1))) μ2))))) : G Γ m_MO_end (d + 1) (0, 0) Q 0 [.ref r0, .int x1] [] μ := by
  refine run_ok (pc' := 5) [(.aload_n 0, 0, 0, 0), (.iconst 0, 0, 0, 0), (.putfield 109, 11, 0, 0)] _ _ _ _ (by decide +kernel) ?_
  show _ ∧ (_)
  refine ⟨o_r0_11, ?_⟩
  show G Γ m_MO_end (d + 1) (0, 0) Q 5 [.ref r0, .int x1] [] (sI μ r0 0 (w 0))
  obtain ⟨μ1, em1⟩ : ∃ m : XM, m = sI μ r0 0 (w 0) := ⟨_, rfl⟩
  replace h := h μ1 em1
  have hm1 : xN μ ≤ xN μ1 := by rw [em1]; exact Nat.le_refl _
  rw [← em1]
  refine run_ok (pc' := 6) [(.iload_n 1, 0, 0, 0)] _ _ _ _ (by decide +kernel) ?_
  show G Γ m_MO_end (d + 1) (0, 0) Q 6 [.ref r0, .int x1] [.int x1] μ1
  refine g_ifz_lt (pc' := 17) (off := 11) (by decide) (by decide +kernel) (fun hc => ?_) (fun hc => ?_)
  · replace h := h.1 hc
    show G Γ m_MO_end (d + 1) (0, 0) Q 17 [.ref r0, .int x1] [] μ1
    refine run_ok (pc' := 18) [(.iconst 0, 0, 0, 0)] _ _ _ _ (by decide +kernel) ?_
    show G Γ m_MO_end (d + 1) (0, 0) Q 18 [.ref r0, .int x1] [.int (w 0)] μ1
    exact g_retz (by decide +kernel) rfl (Or.inl rfl) h
  · replace h := h.2 hc
    show G Γ m_MO_end (d + 1) (0, 0) Q 9 [.ref r0, .int x1] [] μ1
    refine run_ok (pc' := 14) [(.iload_n 1, 0, 0, 0), (.aload_n 0, 0, 0, 0), (.getfield 122, 11, 6, 0)] _ _ _ _ (by decide +kernel) ?_
    show _ ∧ (_)
    refine ⟨((o_r0_11).mono hm1), ?_⟩
    show G Γ m_MO_end (d + 1) (0, 0) Q 14 [.ref r0, .int x1] [.int (xI μ1 r0 6), .int x1] μ1
    refine g_icmp_le (pc' := 19) (off := 5) (by decide) (by decide +kernel) (fun hc => ?_) (fun hc => ?_)
    · replace h := h.2 hc
      show G Γ m_MO_end (d + 1) (0, 0) Q 19 [.ref r0, .int x1] [] μ1
      refine run_ok (pc' := 24) [(.aload_n 0, 0, 0, 0), (.iload_n 1, 0, 0, 0), (.putfield 122, 11, 6, 0)] _ _ _ _ (by decide +kernel) ?_
      show _ ∧ (_)
      refine ⟨((o_r0_11).mono hm1), ?_⟩
      show G Γ m_MO_end (d + 1) (0, 0) Q 24 [.ref r0, .int x1] [] (sI μ1 r0 6 x1)
      obtain ⟨μ2, em2⟩ : ∃ m : XM, m = sI μ1 r0 6 x1 := ⟨_, rfl⟩
      replace h := h μ2 em2
      have hm2 : xN μ1 ≤ xN μ2 := by rw [em2]; exact Nat.le_refl _
      rw [← em2]
      refine run_ok (pc' := 25) [(.iconst 1, 0, 0, 0)] _ _ _ _ (by decide +kernel) ?_
      show G Γ m_MO_end (d + 1) (0, 0) Q 25 [.ref r0, .int x1] [.int (w 1)] μ2
      exact g_retz (by decide +kernel) rfl (Or.inr rfl) h
    · replace h := h.1 hc
      show G Γ m_MO_end (d + 1) (0, 0) Q 17 [.ref r0, .int x1] [] μ1
      refine run_ok (pc' := 18) [(.iconst 0, 0, 0, 0)] _ _ _ _ (by decide +kernel) ?_
      show G Γ m_MO_end (d + 1) (0, 0) Q 18 [.ref r0, .int x1] [.int (w 0)] μ1
      exact g_retz (by decide +kernel) rfl (Or.inl rfl) h
/-! FrostBoxModel look()I -/
set_option maxRecDepth 100000 in
theorem B_MO_look_0 {Γ : XG} {d : Nat} {Q : Option Value → XM → Prop} {r0 r0_5 : Nat} {μ : XM} (o_r0_11 : ob μ r0 11) (e_r0_5 : xR μ r0 5 = some r0_5) (h : ((xI μ r0 10 < xI μ r0 9 → inb μ 1 r0_5 ((xI μ r0 8) + (xI μ r0 10)) ∧ ((xI μ r0_5 ((xI μ r0 8) + (xI μ r0 10)).toNatClampNeg = w 32 → ∀ μ4, μ4 = sI μ r0 10 ((xI μ r0 10) + (w 1)) → G Γ m_MO_look (d + 1) (0, 0) Q 0 [.ref r0] [] μ4) ∧ (¬ xI μ r0_5 ((xI μ r0 8) + (xI μ r0 10)).toNatClampNeg = w 32 → ((xI μ r0 10 < xI μ r0 9 → inb μ 1 r0_5 ((xI μ r0 8) + (xI μ r0 10)) ∧ Q (some (.int ((xI μ r0_5 ((xI μ r0 8) + (xI μ r0 10)).toNatClampNeg) &&& (w 255)))) μ) ∧ (¬ xI μ r0 10 < xI μ r0 9 → Q (some (.int (w (-1)))) μ))))) ∧ (¬ xI μ r0 10 < xI μ r0 9 → ((xI μ r0 10 < xI μ r0 9 → inb μ 1 r0_5 ((xI μ r0 8) + (xI μ r0 10)) ∧ Q (some (.int ((xI μ r0_5 ((xI μ r0 8) + (xI μ r0 10)).toNatClampNeg) &&& (w 255)))) μ) ∧ (¬ xI μ r0 10 < xI μ r0 9 → Q (some (.int (w (-1)))) μ))))) : G Γ m_MO_look (d + 1) (0, 0) Q 0 [.ref r0] [] μ := by
  refine run_ok (pc' := 8) [(.aload_n 0, 0, 0, 0), (.getfield 132, 11, 10, 0), (.aload_n 0, 0, 0, 0), (.getfield 135, 11, 9, 0)] _ _ _ _ (by decide +kernel) ?_
  show _ ∧ (_ ∧ (_))
  refine ⟨o_r0_11, o_r0_11, ?_⟩
  show G Γ m_MO_look (d + 1) (0, 0) Q 8 [.ref r0] [.int (xI μ r0 9), .int (xI μ r0 10)] μ
  refine g_icmp_ge (pc' := 43) (off := 35) (by decide) (by decide +kernel) (fun hc => ?_) (fun hc => ?_)
  · replace h := h.2 hc
    show G Γ m_MO_look (d + 1) (0, 0) Q 43 [.ref r0] [] μ
    refine run_ok (pc' := 51) [(.aload_n 0, 0, 0, 0), (.getfield 132, 11, 10, 0), (.aload_n 0, 0, 0, 0), (.getfield 135, 11, 9, 0)] _ _ _ _ (by decide +kernel) ?_
    show _ ∧ (_ ∧ (_))
    refine ⟨o_r0_11, o_r0_11, ?_⟩
    show G Γ m_MO_look (d + 1) (0, 0) Q 51 [.ref r0] [.int (xI μ r0 9), .int (xI μ r0 10)] μ
    refine g_icmp_ge (pc' := 75) (off := 24) (by decide) (by decide +kernel) (fun hc => ?_) (fun hc => ?_)
    · replace h := h.2 hc
      show G Γ m_MO_look (d + 1) (0, 0) Q 75 [.ref r0] [] μ
      refine run_ok (pc' := 76) [(.iconst (-1), 0, 0, 0)] _ _ _ _ (by decide +kernel) ?_
      show G Γ m_MO_look (d + 1) (0, 0) Q 76 [.ref r0] [.int (w (-1))] μ
      exact g_reti (by decide +kernel) rfl h
    · replace h := h.1 hc
      show G Γ m_MO_look (d + 1) (0, 0) Q 54 [.ref r0] [] μ
      obtain ⟨ib1, h⟩ := h
      refine run_ok (pc' := 76) [(.aload_n 0, 0, 0, 0), (.getfield 23, 11, 5, 2), (.aload_n 0, 0, 0, 0), (.getfield 138, 11, 8, 0), (.aload_n 0, 0, 0, 0), (.getfield 132, 11, 10, 0), (.iadd, 0, 0, 0), (.baload, 1, 0, 0), (.sipush 255, 0, 0, 0), (.iand, 0, 0, 0), (.goto 4, 0, 0, 0)] _ _ _ _ (by decide +kernel) ?_
      show _ ∧ (∃ _, _ ∧ (_ ∧ (_ ∧ (_ ∧ (_ ∧ (_))))))
      refine ⟨o_r0_11, r0_5, e_r0_5, o_r0_11, o_r0_11, ib1, Or.inl rfl, ?_⟩
      show G Γ m_MO_look (d + 1) (0, 0) Q 76 [.ref r0] [.int ((xI μ r0_5 ((xI μ r0 8) + (xI μ r0 10)).toNatClampNeg) &&& (w 255))] μ
      exact g_reti (by decide +kernel) rfl h
  · replace h := h.1 hc
    show G Γ m_MO_look (d + 1) (0, 0) Q 11 [.ref r0] [] μ
    obtain ⟨ib2, h⟩ := h
    refine run_ok (pc' := 27) [(.aload_n 0, 0, 0, 0), (.getfield 23, 11, 5, 2), (.aload_n 0, 0, 0, 0), (.getfield 138, 11, 8, 0), (.aload_n 0, 0, 0, 0), (.getfield 132, 11, 10, 0), (.iadd, 0, 0, 0), (.baload, 1, 0, 0), (.bipush 32, 0, 0, 0)] _ _ _ _ (by decide +kernel) ?_
    show _ ∧ (∃ _, _ ∧ (_ ∧ (_ ∧ (_ ∧ (_ ∧ (_))))))
    refine ⟨o_r0_11, r0_5, e_r0_5, o_r0_11, o_r0_11, ib2, Or.inl rfl, ?_⟩
    show G Γ m_MO_look (d + 1) (0, 0) Q 27 [.ref r0] [.int (w 32), .int (xI μ r0_5 ((xI μ r0 8) + (xI μ r0 10)).toNatClampNeg)] μ
    refine g_icmp_ne (pc' := 43) (off := 16) (by decide) (by decide +kernel) (fun hc => ?_) (fun hc => ?_)
    · replace h := h.2 hc
      show G Γ m_MO_look (d + 1) (0, 0) Q 43 [.ref r0] [] μ
      refine run_ok (pc' := 51) [(.aload_n 0, 0, 0, 0), (.getfield 132, 11, 10, 0), (.aload_n 0, 0, 0, 0), (.getfield 135, 11, 9, 0)] _ _ _ _ (by decide +kernel) ?_
      show _ ∧ (_ ∧ (_))
      refine ⟨o_r0_11, o_r0_11, ?_⟩
      show G Γ m_MO_look (d + 1) (0, 0) Q 51 [.ref r0] [.int (xI μ r0 9), .int (xI μ r0 10)] μ
      refine g_icmp_ge (pc' := 75) (off := 24) (by decide) (by decide +kernel) (fun hc => ?_) (fun hc => ?_)
      · replace h := h.2 hc
        show G Γ m_MO_look (d + 1) (0, 0) Q 75 [.ref r0] [] μ
        refine run_ok (pc' := 76) [(.iconst (-1), 0, 0, 0)] _ _ _ _ (by decide +kernel) ?_
        show G Γ m_MO_look (d + 1) (0, 0) Q 76 [.ref r0] [.int (w (-1))] μ
        exact g_reti (by decide +kernel) rfl h
      · replace h := h.1 hc
        show G Γ m_MO_look (d + 1) (0, 0) Q 54 [.ref r0] [] μ
        obtain ⟨ib3, h⟩ := h
        refine run_ok (pc' := 76) [(.aload_n 0, 0, 0, 0), (.getfield 23, 11, 5, 2), (.aload_n 0, 0, 0, 0), (.getfield 138, 11, 8, 0), (.aload_n 0, 0, 0, 0), (.getfield 132, 11, 10, 0), (.iadd, 0, 0, 0), (.baload, 1, 0, 0), (.sipush 255, 0, 0, 0), (.iand, 0, 0, 0), (.goto 4, 0, 0, 0)] _ _ _ _ (by decide +kernel) ?_
        show _ ∧ (∃ _, _ ∧ (_ ∧ (_ ∧ (_ ∧ (_ ∧ (_))))))
        refine ⟨o_r0_11, r0_5, e_r0_5, o_r0_11, o_r0_11, ib3, Or.inl rfl, ?_⟩
        show G Γ m_MO_look (d + 1) (0, 0) Q 76 [.ref r0] [.int ((xI μ r0_5 ((xI μ r0 8) + (xI μ r0 10)).toNatClampNeg) &&& (w 255))] μ
        exact g_reti (by decide +kernel) rfl h
    · replace h := h.1 hc
      show G Γ m_MO_look (d + 1) (0, 0) Q 30 [.ref r0] [] μ
      refine run_ok (pc' := 40) [(.aload_n 0, 0, 0, 0), (.dup, 0, 0, 0), (.getfield 132, 11, 10, 0), (.iconst 1, 0, 0, 0), (.iadd, 0, 0, 0), (.putfield 132, 11, 10, 0)] _ _ _ _ (by decide +kernel) ?_
      show _ ∧ (_ ∧ (_))
      refine ⟨o_r0_11, o_r0_11, ?_⟩
      show G Γ m_MO_look (d + 1) (0, 0) Q 40 [.ref r0] [] (sI μ r0 10 ((xI μ r0 10) + (w 1)))
      obtain ⟨μ4, em4⟩ : ∃ m : XM, m = sI μ r0 10 ((xI μ r0 10) + (w 1)) := ⟨_, rfl⟩
      replace h := h μ4 em4
      have hm4 : xN μ ≤ xN μ4 := by rw [em4]; exact Nat.le_refl _
      rw [← em4]
      refine run_ok (pc' := 0) [(.goto (-40), 0, 0, 0)] _ _ _ _ (by decide +kernel) ?_
      show G Γ m_MO_look (d + 1) (0, 0) Q 0 [.ref r0] [] μ4
      exact h
/-! FrostBoxModel fails()Z -/
set_option maxRecDepth 100000 in
theorem B_MO_fails_0 {Γ : XG} {d : Nat} {Q : Option Value → XM → Prop} {r0 : Nat} {μ : XM} (o_r0_11 : ob μ r0 11) (h : ((xI μ r0 11 = w (-1) → ∀ μ1, μ1 = sI μ r0 11 (xI μ r0 10) → Q (some (.int (w 0))) μ1) ∧ (¬ xI μ r0 11 = w (-1) → Q (some (.int (w 0))) μ))) : G Γ m_MO_fails (d + 1) (0, 0) Q 0 [.ref r0] [] μ := by
  refine run_ok (pc' := 5) [(.aload_n 0, 0, 0, 0), (.getfield 141, 11, 11, 0), (.iconst (-1), 0, 0, 0)] _ _ _ _ (by decide +kernel) ?_
  show _ ∧ (_)
  refine ⟨o_r0_11, ?_⟩
  show G Γ m_MO_fails (d + 1) (0, 0) Q 5 [.ref r0] [.int (w (-1)), .int (xI μ r0 11)] μ
  refine g_icmp_ne (pc' := 16) (off := 11) (by decide) (by decide +kernel) (fun hc => ?_) (fun hc => ?_)
  · replace h := h.2 hc
    show G Γ m_MO_fails (d + 1) (0, 0) Q 16 [.ref r0] [] μ
    refine run_ok (pc' := 17) [(.iconst 0, 0, 0, 0)] _ _ _ _ (by decide +kernel) ?_
    show G Γ m_MO_fails (d + 1) (0, 0) Q 17 [.ref r0] [.int (w 0)] μ
    exact g_retz (by decide +kernel) rfl (Or.inl rfl) h
  · replace h := h.1 hc
    show G Γ m_MO_fails (d + 1) (0, 0) Q 8 [.ref r0] [] μ
    refine run_ok (pc' := 16) [(.aload_n 0, 0, 0, 0), (.aload_n 0, 0, 0, 0), (.getfield 132, 11, 10, 0), (.putfield 141, 11, 11, 0)] _ _ _ _ (by decide +kernel) ?_
    show _ ∧ (_ ∧ (_))
    refine ⟨o_r0_11, o_r0_11, ?_⟩
    show G Γ m_MO_fails (d + 1) (0, 0) Q 16 [.ref r0] [] (sI μ r0 11 (xI μ r0 10))
    obtain ⟨μ1, em1⟩ : ∃ m : XM, m = sI μ r0 11 (xI μ r0 10) := ⟨_, rfl⟩
    replace h := h μ1 em1
    have hm1 : xN μ ≤ xN μ1 := by rw [em1]; exact Nat.le_refl _
    rw [← em1]
    refine run_ok (pc' := 17) [(.iconst 0, 0, 0, 0)] _ _ _ _ (by decide +kernel) ?_
    show G Γ m_MO_fails (d + 1) (0, 0) Q 17 [.ref r0] [.int (w 0)] μ1
    exact g_retz (by decide +kernel) rfl (Or.inl rfl) h
/-! FrostBoxModel goesIn()Z -/
set_option maxRecDepth 100000 in
theorem lk_11_147 : LkV 11 147 m_MO_fails 0 := ⟨lc_MO_fails, lwG_in (List.mem_of_getElem? (i := 1423) rfl) rfl, lwG_in (List.mem_of_getElem? (i := 1425) rfl) rfl, lwG_in (List.mem_of_getElem? (i := 55) rfl) rfl⟩
set_option maxRecDepth 100000 in
theorem B_MO_goesIn_0 {Γ : XG} {d : Nat} {Q : Option Value → XM → Prop} {r0 : Nat} {μ : XM} (o_r0_11 : ob μ r0 11) (h : ((xI μ r0 12 = w 6 → Call Γ m_MO_fails d [.ref r0] μ (KI (fun v3 μ3 => ((v3 = w 0 ∨ v3 = w 1) ∧ Q (some (.int v3)) μ3)))) ∧ (¬ xI μ r0 12 = w 6 → ∀ μ1, μ1 = sI μ r0 12 ((xI μ r0 12) + (w 1)) → ∀ μ2, μ2 = sI μ1 r0 10 ((xI μ1 r0 10) + (w 1)) → Q (some (.int (w 1))) μ2))) : G Γ m_MO_goesIn (d + 1) (0, 0) Q 0 [.ref r0] [] μ := by
  refine run_ok (pc' := 6) [(.aload_n 0, 0, 0, 0), (.getfield 144, 11, 12, 0), (.bipush 6, 0, 0, 0)] _ _ _ _ (by decide +kernel) ?_
  show _ ∧ (_)
  refine ⟨o_r0_11, ?_⟩
  show G Γ m_MO_goesIn (d + 1) (0, 0) Q 6 [.ref r0] [.int (w 6), .int (xI μ r0 12)] μ
  refine g_icmp_ne (pc' := 14) (off := 8) (by decide) (by decide +kernel) (fun hc => ?_) (fun hc => ?_)
  · replace h := h.2 hc
    show G Γ m_MO_goesIn (d + 1) (0, 0) Q 14 [.ref r0] [] μ
    refine run_ok (pc' := 24) [(.aload_n 0, 0, 0, 0), (.dup, 0, 0, 0), (.getfield 144, 11, 12, 0), (.iconst 1, 0, 0, 0), (.iadd, 0, 0, 0), (.putfield 144, 11, 12, 0)] _ _ _ _ (by decide +kernel) ?_
    show _ ∧ (_ ∧ (_))
    refine ⟨o_r0_11, o_r0_11, ?_⟩
    show G Γ m_MO_goesIn (d + 1) (0, 0) Q 24 [.ref r0] [] (sI μ r0 12 ((xI μ r0 12) + (w 1)))
    obtain ⟨μ1, em1⟩ : ∃ m : XM, m = sI μ r0 12 ((xI μ r0 12) + (w 1)) := ⟨_, rfl⟩
    replace h := h μ1 em1
    have hm1 : xN μ ≤ xN μ1 := by rw [em1]; exact Nat.le_refl _
    rw [← em1]
    refine run_ok (pc' := 34) [(.aload_n 0, 0, 0, 0), (.dup, 0, 0, 0), (.getfield 132, 11, 10, 0), (.iconst 1, 0, 0, 0), (.iadd, 0, 0, 0), (.putfield 132, 11, 10, 0)] _ _ _ _ (by decide +kernel) ?_
    show _ ∧ (_ ∧ (_))
    refine ⟨((o_r0_11).mono hm1), ((o_r0_11).mono hm1), ?_⟩
    show G Γ m_MO_goesIn (d + 1) (0, 0) Q 34 [.ref r0] [] (sI μ1 r0 10 ((xI μ1 r0 10) + (w 1)))
    obtain ⟨μ2, em2⟩ : ∃ m : XM, m = sI μ1 r0 10 ((xI μ1 r0 10) + (w 1)) := ⟨_, rfl⟩
    replace h := h μ2 em2
    have hm2 : xN μ1 ≤ xN μ2 := by rw [em2]; exact Nat.le_refl _
    rw [← em2]
    refine run_ok (pc' := 35) [(.iconst 1, 0, 0, 0)] _ _ _ _ (by decide +kernel) ?_
    show G Γ m_MO_goesIn (d + 1) (0, 0) Q 35 [.ref r0] [.int (w 1)] μ2
    exact g_retz (by decide +kernel) rfl (Or.inr rfl) h
  · replace h := h.1 hc
    show G Γ m_MO_goesIn (d + 1) (0, 0) Q 9 [.ref r0] [] μ
    refine run_ok (pc' := 10) [(.aload_n 0, 0, 0, 0)] _ _ _ _ (by decide +kernel) ?_
    show G Γ m_MO_goesIn (d + 1) (0, 0) Q 10 [.ref r0] [.ref r0] μ
    refine g_invV (M' := m_MO_fails) (b1 := 0) (b2 := 0) (As := []) (a := r0) (st := []) lk_11_147 (by decide +kernel) rfl (dk_MO_fails d) (Nat.le_of_ble_eq_true rfl) (Or.inl ⟨11, o_r0_11, rfl⟩) h ?_
    rintro _ μ3 ⟨v3, rfl, h⟩ hn3
    show G Γ m_MO_goesIn (d + 1) (0, 0) Q 13 [.ref r0] [.int v3] μ3
    exact g_retz (by decide +kernel) rfl h.1 h.2
/-! FrostBoxModel takes(I)Z -/
set_option maxRecDepth 100000 in
theorem lk_11_151 : LkV 11 151 m_MO_look 0 := ⟨lc_MO_look, lwG_in (List.mem_of_getElem? (i := 1419) rfl) rfl, lwG_in (List.mem_of_getElem? (i := 1421) rfl) rfl, lwG_in (List.mem_of_getElem? (i := 54) rfl) rfl⟩
set_option maxRecDepth 100000 in
theorem B_MO_takes_0 {Γ : XG} {d : Nat} {Q : Option Value → XM → Prop} {r0 : Nat} {x1 : Int32} {μ : XM} (o_r0_11 : ob μ r0 11) (h : ((xI μ r0 11 = w (-1) → Call Γ m_MO_look d [.ref r0] μ (KI (fun v2 μ2 => ((v2 = x1 → ∀ μ3, μ3 = sI μ2 r0 10 ((xI μ2 r0 10) + (w 1)) → Q (some (.int (w 1))) μ3) ∧ (¬ v2 = x1 → Call Γ m_MO_fails d [.ref r0] μ2 (KI (fun v4 μ4 => ((v4 = w 0 ∨ v4 = w 1) ∧ Q (some (.int v4)) μ4)))))))) ∧ (¬ xI μ r0 11 = w (-1) → Call Γ m_MO_fails d [.ref r0] μ (KI (fun v1 μ1 => ((v1 = w 0 ∨ v1 = w 1) ∧ Q (some (.int v1)) μ1)))))) : G Γ m_MO_takes (d + 1) (0, 0) Q 0 [.ref r0, .int x1] [] μ := by
  refine run_ok (pc' := 5) [(.aload_n 0, 0, 0, 0), (.getfield 141, 11, 11, 0), (.iconst (-1), 0, 0, 0)] _ _ _ _ (by decide +kernel) ?_
  show _ ∧ (_)
  refine ⟨o_r0_11, ?_⟩
  show G Γ m_MO_takes (d + 1) (0, 0) Q 5 [.ref r0, .int x1] [.int (w (-1)), .int (xI μ r0 11)] μ
  refine g_icmp_ne (pc' := 16) (off := 11) (by decide) (by decide +kernel) (fun hc => ?_) (fun hc => ?_)
  · replace h := h.2 hc
    show G Γ m_MO_takes (d + 1) (0, 0) Q 16 [.ref r0, .int x1] [] μ
    refine run_ok (pc' := 17) [(.aload_n 0, 0, 0, 0)] _ _ _ _ (by decide +kernel) ?_
    show G Γ m_MO_takes (d + 1) (0, 0) Q 17 [.ref r0, .int x1] [.ref r0] μ
    refine g_invV (M' := m_MO_fails) (b1 := 0) (b2 := 0) (As := []) (a := r0) (st := []) lk_11_147 (by decide +kernel) rfl (dk_MO_fails d) (Nat.le_of_ble_eq_true rfl) (Or.inl ⟨11, o_r0_11, rfl⟩) h ?_
    rintro _ μ1 ⟨v1, rfl, h⟩ hn1
    show G Γ m_MO_takes (d + 1) (0, 0) Q 20 [.ref r0, .int x1] [.int v1] μ1
    exact g_retz (by decide +kernel) rfl h.1 h.2
  · replace h := h.1 hc
    show G Γ m_MO_takes (d + 1) (0, 0) Q 8 [.ref r0, .int x1] [] μ
    refine run_ok (pc' := 9) [(.aload_n 0, 0, 0, 0)] _ _ _ _ (by decide +kernel) ?_
    show G Γ m_MO_takes (d + 1) (0, 0) Q 9 [.ref r0, .int x1] [.ref r0] μ
    refine g_invV (M' := m_MO_look) (b1 := 0) (b2 := 0) (As := []) (a := r0) (st := []) lk_11_151 (by decide +kernel) rfl (dk_MO_look d) (Nat.le_of_ble_eq_true rfl) (Or.inl ⟨11, o_r0_11, rfl⟩) h ?_
    rintro _ μ2 ⟨v2, rfl, h⟩ hn2
    show G Γ m_MO_takes (d + 1) (0, 0) Q 12 [.ref r0, .int x1] [.int v2] μ2
    refine run_ok (pc' := 13) [(.iload_n 1, 0, 0, 0)] _ _ _ _ (by decide +kernel) ?_
    show G Γ m_MO_takes (d + 1) (0, 0) Q 13 [.ref r0, .int x1] [.int x1, .int v2] μ2
    refine g_icmp_eq (pc' := 21) (off := 8) (by decide) (by decide +kernel) (fun hc => ?_) (fun hc => ?_)
    · replace h := h.1 hc
      show G Γ m_MO_takes (d + 1) (0, 0) Q 21 [.ref r0, .int x1] [] μ2
      refine run_ok (pc' := 31) [(.aload_n 0, 0, 0, 0), (.dup, 0, 0, 0), (.getfield 132, 11, 10, 0), (.iconst 1, 0, 0, 0), (.iadd, 0, 0, 0), (.putfield 132, 11, 10, 0)] _ _ _ _ (by decide +kernel) ?_
      show _ ∧ (_ ∧ (_))
      refine ⟨((o_r0_11).mono hn2), ((o_r0_11).mono hn2), ?_⟩
      show G Γ m_MO_takes (d + 1) (0, 0) Q 31 [.ref r0, .int x1] [] (sI μ2 r0 10 ((xI μ2 r0 10) + (w 1)))
      obtain ⟨μ3, em3⟩ : ∃ m : XM, m = sI μ2 r0 10 ((xI μ2 r0 10) + (w 1)) := ⟨_, rfl⟩
      replace h := h μ3 em3
      have hm3 : xN μ2 ≤ xN μ3 := by rw [em3]; exact Nat.le_refl _
      rw [← em3]
      refine run_ok (pc' := 32) [(.iconst 1, 0, 0, 0)] _ _ _ _ (by decide +kernel) ?_
      show G Γ m_MO_takes (d + 1) (0, 0) Q 32 [.ref r0, .int x1] [.int (w 1)] μ3
      exact g_retz (by decide +kernel) rfl (Or.inr rfl) h
    · replace h := h.2 hc
      show G Γ m_MO_takes (d + 1) (0, 0) Q 16 [.ref r0, .int x1] [] μ2
      refine run_ok (pc' := 17) [(.aload_n 0, 0, 0, 0)] _ _ _ _ (by decide +kernel) ?_
      show G Γ m_MO_takes (d + 1) (0, 0) Q 17 [.ref r0, .int x1] [.ref r0] μ2
      refine g_invV (M' := m_MO_fails) (b1 := 0) (b2 := 0) (As := []) (a := r0) (st := []) lk_11_147 (by decide +kernel) rfl (dk_MO_fails d) (Nat.le_of_ble_eq_true rfl) (Or.inl ⟨11, ((o_r0_11).mono hn2), rfl⟩) h ?_
      rintro _ μ4 ⟨v4, rfl, h⟩ hn4
      show G Γ m_MO_takes (d + 1) (0, 0) Q 20 [.ref r0, .int x1] [.int v4] μ4
      exact g_retz (by decide +kernel) rfl h.1 h.2
/-! FrostBoxModel isDigit()Z -/
set_option maxRecDepth 100000 in
theorem B_MO_isDigit_0 {Γ : XG} {d : Nat} {Q : Option Value → XM → Prop} {r0 r0_5 : Nat} {μ : XM} (o_r0_11 : ob μ r0 11) (e_r0_5 : xR μ r0 5 = some r0_5) (h : ((xI μ r0 10 < xI μ r0 9 → inb μ 1 r0_5 ((xI μ r0 8) + (xI μ r0 10)) ∧ ((xI μ r0_5 ((xI μ r0 8) + (xI μ r0 10)).toNatClampNeg < w 48 → Q (some (.int (w 0))) μ) ∧ (¬ xI μ r0_5 ((xI μ r0 8) + (xI μ r0 10)).toNatClampNeg < w 48 → inb μ 1 r0_5 ((xI μ r0 8) + (xI μ r0 10)) ∧ ((w 57 < xI μ r0_5 ((xI μ r0 8) + (xI μ r0 10)).toNatClampNeg → Q (some (.int (w 0))) μ) ∧ (¬ w 57 < xI μ r0_5 ((xI μ r0 8) + (xI μ r0 10)).toNatClampNeg → Q (some (.int (w 1))) μ))))) ∧ (¬ xI μ r0 10 < xI μ r0 9 → Q (some (.int (w 0))) μ))) : G Γ m_MO_isDigit (d + 1) (0, 0) Q 0 [.ref r0] [] μ := by
  refine run_ok (pc' := 8) [(.aload_n 0, 0, 0, 0), (.getfield 132, 11, 10, 0), (.aload_n 0, 0, 0, 0), (.getfield 135, 11, 9, 0)] _ _ _ _ (by decide +kernel) ?_
  show _ ∧ (_ ∧ (_))
  refine ⟨o_r0_11, o_r0_11, ?_⟩
  show G Γ m_MO_isDigit (d + 1) (0, 0) Q 8 [.ref r0] [.int (xI μ r0 9), .int (xI μ r0 10)] μ
  refine g_icmp_ge (pc' := 53) (off := 45) (by decide) (by decide +kernel) (fun hc => ?_) (fun hc => ?_)
  · replace h := h.2 hc
    show G Γ m_MO_isDigit (d + 1) (0, 0) Q 53 [.ref r0] [] μ
    refine run_ok (pc' := 54) [(.iconst 0, 0, 0, 0)] _ _ _ _ (by decide +kernel) ?_
    show G Γ m_MO_isDigit (d + 1) (0, 0) Q 54 [.ref r0] [.int (w 0)] μ
    exact g_retz (by decide +kernel) rfl (Or.inl rfl) h
  · replace h := h.1 hc
    show G Γ m_MO_isDigit (d + 1) (0, 0) Q 11 [.ref r0] [] μ
    obtain ⟨ib1, h⟩ := h
    refine run_ok (pc' := 27) [(.aload_n 0, 0, 0, 0), (.getfield 23, 11, 5, 2), (.aload_n 0, 0, 0, 0), (.getfield 138, 11, 8, 0), (.aload_n 0, 0, 0, 0), (.getfield 132, 11, 10, 0), (.iadd, 0, 0, 0), (.baload, 1, 0, 0), (.bipush 48, 0, 0, 0)] _ _ _ _ (by decide +kernel) ?_
    show _ ∧ (∃ _, _ ∧ (_ ∧ (_ ∧ (_ ∧ (_ ∧ (_))))))
    refine ⟨o_r0_11, r0_5, e_r0_5, o_r0_11, o_r0_11, ib1, Or.inl rfl, ?_⟩
    show G Γ m_MO_isDigit (d + 1) (0, 0) Q 27 [.ref r0] [.int (w 48), .int (xI μ r0_5 ((xI μ r0 8) + (xI μ r0 10)).toNatClampNeg)] μ
    refine g_icmp_lt (pc' := 53) (off := 26) (by decide) (by decide +kernel) (fun hc => ?_) (fun hc => ?_)
    · replace h := h.1 hc
      show G Γ m_MO_isDigit (d + 1) (0, 0) Q 53 [.ref r0] [] μ
      refine run_ok (pc' := 54) [(.iconst 0, 0, 0, 0)] _ _ _ _ (by decide +kernel) ?_
      show G Γ m_MO_isDigit (d + 1) (0, 0) Q 54 [.ref r0] [.int (w 0)] μ
      exact g_retz (by decide +kernel) rfl (Or.inl rfl) h
    · replace h := h.2 hc
      show G Γ m_MO_isDigit (d + 1) (0, 0) Q 30 [.ref r0] [] μ
      obtain ⟨ib2, h⟩ := h
      refine run_ok (pc' := 46) [(.aload_n 0, 0, 0, 0), (.getfield 23, 11, 5, 2), (.aload_n 0, 0, 0, 0), (.getfield 138, 11, 8, 0), (.aload_n 0, 0, 0, 0), (.getfield 132, 11, 10, 0), (.iadd, 0, 0, 0), (.baload, 1, 0, 0), (.bipush 57, 0, 0, 0)] _ _ _ _ (by decide +kernel) ?_
      show _ ∧ (∃ _, _ ∧ (_ ∧ (_ ∧ (_ ∧ (_ ∧ (_))))))
      refine ⟨o_r0_11, r0_5, e_r0_5, o_r0_11, o_r0_11, ib2, Or.inl rfl, ?_⟩
      show G Γ m_MO_isDigit (d + 1) (0, 0) Q 46 [.ref r0] [.int (w 57), .int (xI μ r0_5 ((xI μ r0 8) + (xI μ r0 10)).toNatClampNeg)] μ
      refine g_icmp_gt (pc' := 53) (off := 7) (by decide) (by decide +kernel) (fun hc => ?_) (fun hc => ?_)
      · replace h := h.1 hc
        show G Γ m_MO_isDigit (d + 1) (0, 0) Q 53 [.ref r0] [] μ
        refine run_ok (pc' := 54) [(.iconst 0, 0, 0, 0)] _ _ _ _ (by decide +kernel) ?_
        show G Γ m_MO_isDigit (d + 1) (0, 0) Q 54 [.ref r0] [.int (w 0)] μ
        exact g_retz (by decide +kernel) rfl (Or.inl rfl) h
      · replace h := h.2 hc
        show G Γ m_MO_isDigit (d + 1) (0, 0) Q 49 [.ref r0] [] μ
        refine run_ok (pc' := 54) [(.iconst 1, 0, 0, 0), (.goto 4, 0, 0, 0)] _ _ _ _ (by decide +kernel) ?_
        show G Γ m_MO_isDigit (d + 1) (0, 0) Q 54 [.ref r0] [.int (w 1)] μ
        exact g_retz (by decide +kernel) rfl (Or.inr rfl) h
/-! FrostBoxModel within(J)I -/
set_option maxRecDepth 100000 in
theorem lm_11_164 : Lk_maxL 11 164 := ⟨lwG_in (List.mem_of_getElem? (i := 1559) rfl) rfl, lwG_in (List.mem_of_getElem? (i := 746) rfl) rfl, lwG_in (List.mem_of_getElem? (i := 130) rfl) rfl, lwG_in (List.mem_of_getElem? (i := 747) rfl) rfl⟩
set_option maxRecDepth 100000 in
theorem lm_11_158 : Lk_minL 11 158 := ⟨lwG_in (List.mem_of_getElem? (i := 1558) rfl) rfl, lwG_in (List.mem_of_getElem? (i := 743) rfl) rfl, lwG_in (List.mem_of_getElem? (i := 130) rfl) rfl, lwG_in (List.mem_of_getElem? (i := 744) rfl) rfl⟩
set_option maxRecDepth 100000 in
theorem B_MO_within_0 {Γ : XG} {d : Nat} {Q : Option Value → XM → Prop} {y0 : Int64} {μ : XM}  (h : Q (some (.int ((jmaxL (wl (-1000000)) (jminL (wl 1000000) y0)).toInt32))) μ) : G Γ m_MO_within (d + 1) (0, 0) Q 0 [.long y0, jk] [] μ := by
  refine run_ok (pc' := 7) [(.ldc2_w 154, 0, 0, (-1000000)), (.ldc2_w 156, 0, 0, 1000000), (.lload_n 0, 0, 0, 0)] _ _ _ _ (by decide +kernel) ?_
  show G Γ m_MO_within (d + 1) (0, 0) Q 7 [.long y0, jk] [.long y0, .long (wl 1000000), .long (wl (-1000000))] μ
  refine g_minL (i := 158) lm_11_158 (Nat.le_of_ble_eq_true rfl) (by decide +kernel) ?_
  show G Γ m_MO_within (d + 1) (0, 0) Q 10 [.long y0, jk] [.long (jminL (wl 1000000) y0), .long (wl (-1000000))] μ
  refine g_maxL (i := 164) lm_11_164 (Nat.le_of_ble_eq_true rfl) (by decide +kernel) ?_
  show G Γ m_MO_within (d + 1) (0, 0) Q 13 [.long y0, jk] [.long (jmaxL (wl (-1000000)) (jminL (wl 1000000) y0))] μ
  refine run_ok (pc' := 14) [(.l2i, 0, 0, 0)] _ _ _ _ (by decide +kernel) ?_
  show G Γ m_MO_within (d + 1) (0, 0) Q 14 [.long y0, jk] [.int ((jmaxL (wl (-1000000)) (jminL (wl 1000000) y0)).toInt32)] μ
  exact g_reti (by decide +kernel) rfl h
/-! FrostBoxModel atom()I -/
set_option maxRecDepth 100000 in
theorem lk_11_181 : LkV 11 181 m_MO_isDigit 0 := ⟨lc_MO_isDigit, lwG_in (List.mem_of_getElem? (i := 1496) rfl) rfl, lwG_in (List.mem_of_getElem? (i := 1498) rfl) rfl, lwG_in (List.mem_of_getElem? (i := 58) rfl) rfl⟩
set_option maxRecDepth 100000 in
theorem lk_11_177 : LkV 11 177 m_MO_takes 1 := ⟨lc_MO_takes, lwG_in (List.mem_of_getElem? (i := 1521) rfl) rfl, lwG_in (List.mem_of_getElem? (i := 1523) rfl) rfl, lwG_in (List.mem_of_getElem? (i := 63) rfl) rfl⟩
set_option maxRecDepth 100000 in
theorem lk_11_174 : LkV 11 174 m_MO_sum 0 := ⟨lc_MO_sum, lwG_in (List.mem_of_getElem? (i := 1537) rfl) rfl, lwG_in (List.mem_of_getElem? (i := 1539) rfl) rfl, lwG_in (List.mem_of_getElem? (i := 67) rfl) rfl⟩
set_option maxRecDepth 100000 in
theorem lk_11_171 : LkV 11 171 m_MO_goesIn 0 := ⟨lc_MO_goesIn, lwG_in (List.mem_of_getElem? (i := 1549) rfl) rfl, lwG_in (List.mem_of_getElem? (i := 1551) rfl) rfl, lwG_in (List.mem_of_getElem? (i := 70) rfl) rfl⟩
set_option maxRecDepth 100000 in
theorem lk_11_167 : LkS 11 167 m_MO_isAmong 2 := ⟨lc_MO_isAmong, lwG_in (List.mem_of_getElem? (i := 1518) rfl) rfl, lwG_in (List.mem_of_getElem? (i := 1519) rfl) rfl⟩
set_option maxRecDepth 100000 in
theorem B_MO_atom_0 {Γ : XG} {d : Nat} {Q : Option Value → XM → Prop} {r0 : Nat} {μ : XM} (o_r0_11 : ob μ r0 11) (h : Call Γ m_MO_look d [.ref r0] μ (KI (fun v1 μ1 => Call Γ m_MO_isAmong d [.ref 15, .int v1] μ1 (KI (fun v2 μ2 => ((v2 = w 0 → ((v1 = w 91 → Call Γ m_MO_goesIn d [.ref r0] μ2 (KI (fun v5 μ5 => ((v5 = w 0 → Q (some (.int (w 0))) μ5) ∧ (¬ v5 = w 0 → Call Γ m_MO_sum d [.ref r0] μ5 (KI (fun v6 μ6 => Call Γ m_MO_takes d [.ref r0, .int (w 93)] μ6 (KI (fun v7 μ7 => ((v7 = w 0 → Q (some (.int (w 0))) μ7) ∧ (¬ v7 = w 0 → ∀ μ8, μ8 = sI μ7 r0 12 ((xI μ7 r0 12) - (w 1)) → Q (some (.int v6)) μ8))))))))))) ∧ (¬ v1 = w 91 → Call Γ m_MO_isDigit d [.ref r0] μ2 (KI (fun v3 μ3 => ((v3 = w 0 → Call Γ m_MO_fails d [.ref r0] μ3 (KI (fun v4 μ4 => G Γ m_MO_atom (d + 1) (0, 0) Q 90 [.ref r0, jk, .int (w 0), .int (w 0)] [] μ4))) ∧ (¬ v3 = w 0 → G Γ m_MO_atom (d + 1) (0, 0) Q 90 [.ref r0, jk, .int (w 0), .int (w 0)] [] μ3))))))) ∧ (¬ v2 = w 0 → ∀ μ9, μ9 = sI μ2 r0 10 ((xI μ2 r0 10) + (w 1)) → ∃ a10, xR μ9 r0 4 = some a10 ∧ inb μ9 0 a10 v1 ∧ Q (some (.int (xI μ9 a10 v1.toNatClampNeg))) μ9))))))) : G Γ m_MO_atom (d + 1) (0, 0) Q 0 [.ref r0] [] μ := by
  refine run_ok (pc' := 1) [(.aload_n 0, 0, 0, 0)] _ _ _ _ (by decide +kernel) ?_
  show G Γ m_MO_atom (d + 1) (0, 0) Q 1 [.ref r0] [.ref r0] μ
  refine g_invV (M' := m_MO_look) (b1 := 0) (b2 := 0) (As := []) (a := r0) (st := []) lk_11_151 (by decide +kernel) rfl (dk_MO_look d) (Nat.le_of_ble_eq_true rfl) (Or.inl ⟨11, o_r0_11, rfl⟩) h ?_
  rintro _ μ1 ⟨v1, rfl, h⟩ hn1
  show G Γ m_MO_atom (d + 1) (0, 0) Q 4 [.ref r0] [.int v1] μ1
  refine run_ok (pc' := 8) [(.istore_n 1, 0, 0, 0), (.ldc 32, 1, 1, 0), (.iload_n 1, 0, 0, 0)] _ _ _ _ (by decide +kernel) ?_
  show G Γ m_MO_atom (d + 1) (0, 0) Q 8 [.ref r0, .int v1] [.int v1, .ref 15] μ1
  refine g_invS (M' := m_MO_isAmong) (b1 := 0) (b2 := 0) (As := [.ref 15, .int v1]) (st := []) lk_11_167 (by decide +kernel) rfl (dk_MO_isAmong d) (Nat.le_of_ble_eq_true rfl) h ?_
  rintro _ μ2 ⟨v2, rfl, h⟩ hn2
  show G Γ m_MO_atom (d + 1) (0, 0) Q 11 [.ref r0, .int v1] [.int v2] μ2
  refine g_ifz_eq (pc' := 31) (off := 20) (by decide) (by decide +kernel) (fun hc => ?_) (fun hc => ?_)
  · replace h := h.1 hc
    show G Γ m_MO_atom (d + 1) (0, 0) Q 31 [.ref r0, .int v1] [] μ2
    refine run_ok (pc' := 34) [(.iload_n 1, 0, 0, 0), (.bipush 91, 0, 0, 0)] _ _ _ _ (by decide +kernel) ?_
    show G Γ m_MO_atom (d + 1) (0, 0) Q 34 [.ref r0, .int v1] [.int (w 91), .int v1] μ2
    refine g_icmp_ne (pc' := 74) (off := 40) (by decide) (by decide +kernel) (fun hc => ?_) (fun hc => ?_)
    · replace h := h.2 hc
      show G Γ m_MO_atom (d + 1) (0, 0) Q 74 [.ref r0, .int v1] [] μ2
      refine run_ok (pc' := 75) [(.aload_n 0, 0, 0, 0)] _ _ _ _ (by decide +kernel) ?_
      show G Γ m_MO_atom (d + 1) (0, 0) Q 75 [.ref r0, .int v1] [.ref r0] μ2
      refine g_invV (M' := m_MO_isDigit) (b1 := 0) (b2 := 0) (As := []) (a := r0) (st := []) lk_11_181 (by decide +kernel) rfl (dk_MO_isDigit d) (Nat.le_of_ble_eq_true rfl) (Or.inl ⟨11, (((o_r0_11).mono hn1).mono hn2), rfl⟩) h ?_
      rintro _ μ3 ⟨v3, rfl, h⟩ hn3
      show G Γ m_MO_atom (d + 1) (0, 0) Q 78 [.ref r0, .int v1] [.int v3] μ3
      refine g_ifz_ne (pc' := 86) (off := 8) (by decide) (by decide +kernel) (fun hc => ?_) (fun hc => ?_)
      · replace h := h.2 hc
        show G Γ m_MO_atom (d + 1) (0, 0) Q 86 [.ref r0, .int v1] [] μ3
        refine run_ok (pc' := 90) [(.iconst 0, 0, 0, 0), (.istore_n 2, 0, 0, 0), (.iconst 0, 0, 0, 0), (.istore_n 3, 0, 0, 0)] _ _ _ _ (by decide +kernel) ?_
        show G Γ m_MO_atom (d + 1) (0, 0) Q 90 [.ref r0, .int v1, .int (w 0), .int (w 0)] [] μ3
        exact g_wk (ls' := [.ref r0, jk, .int (w 0), .int (w 0)]) ⟨Or.inr rfl, Or.inl rfl, Or.inr rfl, Or.inr rfl, trivial⟩ h
      · replace h := h.1 hc
        show G Γ m_MO_atom (d + 1) (0, 0) Q 81 [.ref r0, .int v1] [] μ3
        refine run_ok (pc' := 82) [(.aload_n 0, 0, 0, 0)] _ _ _ _ (by decide +kernel) ?_
        show G Γ m_MO_atom (d + 1) (0, 0) Q 82 [.ref r0, .int v1] [.ref r0] μ3
        refine g_invV (M' := m_MO_fails) (b1 := 0) (b2 := 0) (As := []) (a := r0) (st := []) lk_11_147 (by decide +kernel) rfl (dk_MO_fails d) (Nat.le_of_ble_eq_true rfl) (Or.inl ⟨11, ((((o_r0_11).mono hn1).mono hn2).mono hn3), rfl⟩) h ?_
        rintro _ μ4 ⟨v4, rfl, h⟩ hn4
        show G Γ m_MO_atom (d + 1) (0, 0) Q 85 [.ref r0, .int v1] [.int v4] μ4
        refine run_ok (pc' := 90) [(.pop, 0, 0, 0), (.iconst 0, 0, 0, 0), (.istore_n 2, 0, 0, 0), (.iconst 0, 0, 0, 0), (.istore_n 3, 0, 0, 0)] _ _ _ _ (by decide +kernel) ?_
        show G Γ m_MO_atom (d + 1) (0, 0) Q 90 [.ref r0, .int v1, .int (w 0), .int (w 0)] [] μ4
        exact g_wk (ls' := [.ref r0, jk, .int (w 0), .int (w 0)]) ⟨Or.inr rfl, Or.inl rfl, Or.inr rfl, Or.inr rfl, trivial⟩ h
    · replace h := h.1 hc
      show G Γ m_MO_atom (d + 1) (0, 0) Q 37 [.ref r0, .int v1] [] μ2
      refine run_ok (pc' := 38) [(.aload_n 0, 0, 0, 0)] _ _ _ _ (by decide +kernel) ?_
      show G Γ m_MO_atom (d + 1) (0, 0) Q 38 [.ref r0, .int v1] [.ref r0] μ2
      refine g_invV (M' := m_MO_goesIn) (b1 := 0) (b2 := 0) (As := []) (a := r0) (st := []) lk_11_171 (by decide +kernel) rfl (dk_MO_goesIn d) (Nat.le_of_ble_eq_true rfl) (Or.inl ⟨11, (((o_r0_11).mono hn1).mono hn2), rfl⟩) h ?_
      rintro _ μ5 ⟨v5, rfl, h⟩ hn5
      show G Γ m_MO_atom (d + 1) (0, 0) Q 41 [.ref r0, .int v1] [.int v5] μ5
      refine g_ifz_ne (pc' := 46) (off := 5) (by decide) (by decide +kernel) (fun hc => ?_) (fun hc => ?_)
      · replace h := h.2 hc
        show G Γ m_MO_atom (d + 1) (0, 0) Q 46 [.ref r0, .int v1] [] μ5
        refine run_ok (pc' := 47) [(.aload_n 0, 0, 0, 0)] _ _ _ _ (by decide +kernel) ?_
        show G Γ m_MO_atom (d + 1) (0, 0) Q 47 [.ref r0, .int v1] [.ref r0] μ5
        refine g_invV (M' := m_MO_sum) (b1 := 0) (b2 := 0) (As := []) (a := r0) (st := []) lk_11_174 (by decide +kernel) rfl (dk_MO_sum d) (Nat.le_of_ble_eq_true rfl) (Or.inl ⟨11, ((((o_r0_11).mono hn1).mono hn2).mono hn5), rfl⟩) h ?_
        rintro _ μ6 ⟨v6, rfl, h⟩ hn6
        show G Γ m_MO_atom (d + 1) (0, 0) Q 50 [.ref r0, .int v1] [.int v6] μ6
        refine run_ok (pc' := 54) [(.istore_n 2, 0, 0, 0), (.aload_n 0, 0, 0, 0), (.bipush 93, 0, 0, 0)] _ _ _ _ (by decide +kernel) ?_
        show G Γ m_MO_atom (d + 1) (0, 0) Q 54 [.ref r0, .int v1, .int v6] [.int (w 93), .ref r0] μ6
        refine g_invV (M' := m_MO_takes) (b1 := 0) (b2 := 0) (As := [.int (w 93)]) (a := r0) (st := []) lk_11_177 (by decide +kernel) rfl (dk_MO_takes d) (Nat.le_of_ble_eq_true rfl) (Or.inl ⟨11, (((((o_r0_11).mono hn1).mono hn2).mono hn5).mono hn6), rfl⟩) h ?_
        rintro _ μ7 ⟨v7, rfl, h⟩ hn7
        show G Γ m_MO_atom (d + 1) (0, 0) Q 57 [.ref r0, .int v1, .int v6] [.int v7] μ7
        refine g_ifz_ne (pc' := 62) (off := 5) (by decide) (by decide +kernel) (fun hc => ?_) (fun hc => ?_)
        · replace h := h.2 hc
          show G Γ m_MO_atom (d + 1) (0, 0) Q 62 [.ref r0, .int v1, .int v6] [] μ7
          refine run_ok (pc' := 72) [(.aload_n 0, 0, 0, 0), (.dup, 0, 0, 0), (.getfield 144, 11, 12, 0), (.iconst 1, 0, 0, 0), (.isub, 0, 0, 0), (.putfield 144, 11, 12, 0)] _ _ _ _ (by decide +kernel) ?_
          show _ ∧ (_ ∧ (_))
          refine ⟨((((((o_r0_11).mono hn1).mono hn2).mono hn5).mono hn6).mono hn7), ((((((o_r0_11).mono hn1).mono hn2).mono hn5).mono hn6).mono hn7), ?_⟩
          show G Γ m_MO_atom (d + 1) (0, 0) Q 72 [.ref r0, .int v1, .int v6] [] (sI μ7 r0 12 ((xI μ7 r0 12) - (w 1)))
          obtain ⟨μ8, em8⟩ : ∃ m : XM, m = sI μ7 r0 12 ((xI μ7 r0 12) - (w 1)) := ⟨_, rfl⟩
          replace h := h μ8 em8
          have hm8 : xN μ7 ≤ xN μ8 := by rw [em8]; exact Nat.le_refl _
          rw [← em8]
          refine run_ok (pc' := 73) [(.iload_n 2, 0, 0, 0)] _ _ _ _ (by decide +kernel) ?_
          show G Γ m_MO_atom (d + 1) (0, 0) Q 73 [.ref r0, .int v1, .int v6] [.int v6] μ8
          exact g_reti (by decide +kernel) rfl h
        · replace h := h.1 hc
          show G Γ m_MO_atom (d + 1) (0, 0) Q 60 [.ref r0, .int v1, .int v6] [] μ7
          refine run_ok (pc' := 61) [(.iconst 0, 0, 0, 0)] _ _ _ _ (by decide +kernel) ?_
          show G Γ m_MO_atom (d + 1) (0, 0) Q 61 [.ref r0, .int v1, .int v6] [.int (w 0)] μ7
          exact g_reti (by decide +kernel) rfl h
      · replace h := h.1 hc
        show G Γ m_MO_atom (d + 1) (0, 0) Q 44 [.ref r0, .int v1] [] μ5
        refine run_ok (pc' := 45) [(.iconst 0, 0, 0, 0)] _ _ _ _ (by decide +kernel) ?_
        show G Γ m_MO_atom (d + 1) (0, 0) Q 45 [.ref r0, .int v1] [.int (w 0)] μ5
        exact g_reti (by decide +kernel) rfl h
  · replace h := h.2 hc
    show G Γ m_MO_atom (d + 1) (0, 0) Q 14 [.ref r0, .int v1] [] μ2
    refine run_ok (pc' := 24) [(.aload_n 0, 0, 0, 0), (.dup, 0, 0, 0), (.getfield 132, 11, 10, 0), (.iconst 1, 0, 0, 0), (.iadd, 0, 0, 0), (.putfield 132, 11, 10, 0)] _ _ _ _ (by decide +kernel) ?_
    show _ ∧ (_ ∧ (_))
    refine ⟨(((o_r0_11).mono hn1).mono hn2), (((o_r0_11).mono hn1).mono hn2), ?_⟩
    show G Γ m_MO_atom (d + 1) (0, 0) Q 24 [.ref r0, .int v1] [] (sI μ2 r0 10 ((xI μ2 r0 10) + (w 1)))
    obtain ⟨μ9, em9⟩ : ∃ m : XM, m = sI μ2 r0 10 ((xI μ2 r0 10) + (w 1)) := ⟨_, rfl⟩
    replace h := h μ9 em9
    have hm9 : xN μ2 ≤ xN μ9 := by rw [em9]; exact Nat.le_refl _
    rw [← em9]
    obtain ⟨a10, ea10, h⟩ := h
    obtain ⟨ib11, h⟩ := h
    refine run_ok (pc' := 30) [(.aload_n 0, 0, 0, 0), (.getfield 20, 11, 4, 2), (.iload_n 1, 0, 0, 0), (.iaload, 0, 0, 0)] _ _ _ _ (by decide +kernel) ?_
    show _ ∧ (∃ _, _ ∧ (_ ∧ (_)))
    refine ⟨((((o_r0_11).mono hn1).mono hn2).mono hm9), a10, ea10, ib11, ?_⟩
    show G Γ m_MO_atom (d + 1) (0, 0) Q 30 [.ref r0, .int v1] [.int (xI μ9 a10 v1.toNatClampNeg)] μ9
    exact g_reti (by decide +kernel) rfl h
set_option maxRecDepth 100000 in
theorem B_MO_atom_90 {Γ : XG} {d : Nat} {Q : Option Value → XM → Prop} {r0 : Nat} {x2 x3 : Int32} {μ : XM} (o_r0_11 : ob μ r0 11) (h : Call Γ m_MO_isDigit d [.ref r0] μ (KI (fun v1 μ1 => ((v1 = w 0 → Q (some (.int x2)) μ1) ∧ (¬ v1 = w 0 → ((xI μ1 r0 11 = w (-1) → ((x3 = w 4 → Call Γ m_MO_fails d [.ref r0] μ1 (KI (fun v5 μ5 => Q (some (.int (w 0))) μ5))) ∧ (¬ x3 = w 4 → ∃ a2, xR μ1 r0 5 = some a2 ∧ inb μ1 1 a2 ((xI μ1 r0 8) + (xI μ1 r0 10)) ∧ ∀ μ4, μ4 = sI μ1 r0 10 ((xI μ1 r0 10) + (w 1)) → G Γ m_MO_atom (d + 1) (0, 0) Q 90 [.ref r0, jk, .int ((((w 10) * x2) + (xI μ1 a2 ((xI μ1 r0 8) + (xI μ1 r0 10)).toNatClampNeg)) - (w 48)), .int (x3 + w 1)] [] μ4))) ∧ (¬ xI μ1 r0 11 = w (-1) → Q (some (.int x2)) μ1))))))) : G Γ m_MO_atom (d + 1) (0, 0) Q 90 [.ref r0, jk, .int x2, .int x3] [] μ := by
  refine run_ok (pc' := 91) [(.aload_n 0, 0, 0, 0)] _ _ _ _ (by decide +kernel) ?_
  show G Γ m_MO_atom (d + 1) (0, 0) Q 91 [.ref r0, jk, .int x2, .int x3] [.ref r0] μ
  refine g_invV (M' := m_MO_isDigit) (b1 := 0) (b2 := 0) (As := []) (a := r0) (st := []) lk_11_181 (by decide +kernel) rfl (dk_MO_isDigit d) (Nat.le_of_ble_eq_true rfl) (Or.inl ⟨11, o_r0_11, rfl⟩) h ?_
  rintro _ μ1 ⟨v1, rfl, h⟩ hn1
  show G Γ m_MO_atom (d + 1) (0, 0) Q 94 [.ref r0, jk, .int x2, .int x3] [.int v1] μ1
  refine g_ifz_eq (pc' := 156) (off := 62) (by decide) (by decide +kernel) (fun hc => ?_) (fun hc => ?_)
  · replace h := h.1 hc
    show G Γ m_MO_atom (d + 1) (0, 0) Q 156 [.ref r0, jk, .int x2, .int x3] [] μ1
    refine run_ok (pc' := 157) [(.iload_n 2, 0, 0, 0)] _ _ _ _ (by decide +kernel) ?_
    show G Γ m_MO_atom (d + 1) (0, 0) Q 157 [.ref r0, jk, .int x2, .int x3] [.int x2] μ1
    exact g_reti (by decide +kernel) rfl h
  · replace h := h.2 hc
    show G Γ m_MO_atom (d + 1) (0, 0) Q 97 [.ref r0, jk, .int x2, .int x3] [] μ1
    refine run_ok (pc' := 102) [(.aload_n 0, 0, 0, 0), (.getfield 141, 11, 11, 0), (.iconst (-1), 0, 0, 0)] _ _ _ _ (by decide +kernel) ?_
    show _ ∧ (_)
    refine ⟨((o_r0_11).mono hn1), ?_⟩
    show G Γ m_MO_atom (d + 1) (0, 0) Q 102 [.ref r0, jk, .int x2, .int x3] [.int (w (-1)), .int (xI μ1 r0 11)] μ1
    refine g_icmp_ne (pc' := 156) (off := 54) (by decide) (by decide +kernel) (fun hc => ?_) (fun hc => ?_)
    · replace h := h.2 hc
      show G Γ m_MO_atom (d + 1) (0, 0) Q 156 [.ref r0, jk, .int x2, .int x3] [] μ1
      refine run_ok (pc' := 157) [(.iload_n 2, 0, 0, 0)] _ _ _ _ (by decide +kernel) ?_
      show G Γ m_MO_atom (d + 1) (0, 0) Q 157 [.ref r0, jk, .int x2, .int x3] [.int x2] μ1
      exact g_reti (by decide +kernel) rfl h
    · replace h := h.1 hc
      show G Γ m_MO_atom (d + 1) (0, 0) Q 105 [.ref r0, jk, .int x2, .int x3] [] μ1
      refine run_ok (pc' := 107) [(.iload_n 3, 0, 0, 0), (.iconst 4, 0, 0, 0)] _ _ _ _ (by decide +kernel) ?_
      show G Γ m_MO_atom (d + 1) (0, 0) Q 107 [.ref r0, jk, .int x2, .int x3] [.int (w 4), .int x3] μ1
      refine g_icmp_ne (pc' := 117) (off := 10) (by decide) (by decide +kernel) (fun hc => ?_) (fun hc => ?_)
      · replace h := h.2 hc
        show G Γ m_MO_atom (d + 1) (0, 0) Q 117 [.ref r0, jk, .int x2, .int x3] [] μ1
        obtain ⟨a2, ea2, h⟩ := h
        obtain ⟨ib3, h⟩ := h
        refine run_ok (pc' := 150) [(.bipush 10, 0, 0, 0), (.iload_n 2, 0, 0, 0), (.imul, 0, 0, 0), (.aload_n 0, 0, 0, 0), (.getfield 23, 11, 5, 2), (.aload_n 0, 0, 0, 0), (.getfield 138, 11, 8, 0), (.aload_n 0, 0, 0, 0), (.getfield 132, 11, 10, 0), (.iadd, 0, 0, 0), (.baload, 1, 0, 0), (.iadd, 0, 0, 0), (.bipush 48, 0, 0, 0), (.isub, 0, 0, 0), (.istore_n 2, 0, 0, 0), (.aload_n 0, 0, 0, 0), (.dup, 0, 0, 0), (.getfield 132, 11, 10, 0), (.iconst 1, 0, 0, 0), (.iadd, 0, 0, 0), (.putfield 132, 11, 10, 0)] _ _ _ _ (by decide +kernel) ?_
        show _ ∧ (∃ _, _ ∧ (_ ∧ (_ ∧ (_ ∧ (_ ∧ (_ ∧ (_ ∧ (_))))))))
        refine ⟨((o_r0_11).mono hn1), a2, ea2, ((o_r0_11).mono hn1), ((o_r0_11).mono hn1), ib3, Or.inl rfl, ((o_r0_11).mono hn1), ((o_r0_11).mono hn1), ?_⟩
        show G Γ m_MO_atom (d + 1) (0, 0) Q 150 [.ref r0, jk, .int ((((w 10) * x2) + (xI μ1 a2 ((xI μ1 r0 8) + (xI μ1 r0 10)).toNatClampNeg)) - (w 48)), .int x3] [] (sI μ1 r0 10 ((xI μ1 r0 10) + (w 1)))
        obtain ⟨μ4, em4⟩ : ∃ m : XM, m = sI μ1 r0 10 ((xI μ1 r0 10) + (w 1)) := ⟨_, rfl⟩
        replace h := h μ4 em4
        have hm4 : xN μ1 ≤ xN μ4 := by rw [em4]; exact Nat.le_refl _
        rw [← em4]
        refine run_ok (pc' := 90) [(.iinc 3 1, 0, 0, 0), (.goto (-63), 0, 0, 0)] _ _ _ _ (by decide +kernel) ?_
        show G Γ m_MO_atom (d + 1) (0, 0) Q 90 [.ref r0, jk, .int ((((w 10) * x2) + (xI μ1 a2 ((xI μ1 r0 8) + (xI μ1 r0 10)).toNatClampNeg)) - (w 48)), .int (x3 + w 1)] [] μ4
        exact h
      · replace h := h.1 hc
        show G Γ m_MO_atom (d + 1) (0, 0) Q 110 [.ref r0, jk, .int x2, .int x3] [] μ1
        refine run_ok (pc' := 111) [(.aload_n 0, 0, 0, 0)] _ _ _ _ (by decide +kernel) ?_
        show G Γ m_MO_atom (d + 1) (0, 0) Q 111 [.ref r0, jk, .int x2, .int x3] [.ref r0] μ1
        refine g_invV (M' := m_MO_fails) (b1 := 0) (b2 := 0) (As := []) (a := r0) (st := []) lk_11_147 (by decide +kernel) rfl (dk_MO_fails d) (Nat.le_of_ble_eq_true rfl) (Or.inl ⟨11, ((o_r0_11).mono hn1), rfl⟩) h ?_
        rintro _ μ5 ⟨v5, rfl, h⟩ hn5
        show G Γ m_MO_atom (d + 1) (0, 0) Q 114 [.ref r0, jk, .int x2, .int x3] [.int v5] μ5
        refine run_ok (pc' := 116) [(.pop, 0, 0, 0), (.iconst 0, 0, 0, 0)] _ _ _ _ (by decide +kernel) ?_
        show G Γ m_MO_atom (d + 1) (0, 0) Q 116 [.ref r0, jk, .int x2, .int x3] [.int (w 0)] μ5
        exact g_reti (by decide +kernel) rfl h
/-! FrostBoxModel term()I -/
set_option maxRecDepth 100000 in
theorem lk_11_184 : LkV 11 184 m_MO_atom 0 := ⟨lc_MO_atom, lwG_in (List.mem_of_getElem? (i := 1545) rfl) rfl, lwG_in (List.mem_of_getElem? (i := 1547) rfl) rfl, lwG_in (List.mem_of_getElem? (i := 69) rfl) rfl⟩
set_option maxRecDepth 100000 in
theorem lk_11_187 : LkS 11 187 m_MO_within 1 := ⟨lc_MO_within, lwG_in (List.mem_of_getElem? (i := 1553) rfl) rfl, lwG_in (List.mem_of_getElem? (i := 1554) rfl) rfl⟩
set_option maxRecDepth 100000 in
theorem B_MO_term_0 {Γ : XG} {d : Nat} {Q : Option Value → XM → Prop} {r0 : Nat} {μ : XM} (o_r0_11 : ob μ r0 11) (h : Call Γ m_MO_atom d [.ref r0] μ (KI (fun v1 μ1 => G Γ m_MO_term (d + 1) (0, 0) Q 5 [.ref r0, .int v1] [] μ1))) : G Γ m_MO_term (d + 1) (0, 0) Q 0 [.ref r0] [] μ := by
  refine run_ok (pc' := 1) [(.aload_n 0, 0, 0, 0)] _ _ _ _ (by decide +kernel) ?_
  show G Γ m_MO_term (d + 1) (0, 0) Q 1 [.ref r0] [.ref r0] μ
  refine g_invV (M' := m_MO_atom) (b1 := 0) (b2 := 0) (As := []) (a := r0) (st := []) lk_11_184 (by decide +kernel) rfl (dk_MO_atom d) (Nat.le_of_ble_eq_true rfl) (Or.inl ⟨11, o_r0_11, rfl⟩) h ?_
  rintro _ μ1 ⟨v1, rfl, h⟩ hn1
  show G Γ m_MO_term (d + 1) (0, 0) Q 4 [.ref r0] [.int v1] μ1
  refine run_ok (pc' := 5) [(.istore_n 1, 0, 0, 0)] _ _ _ _ (by decide +kernel) ?_
  show G Γ m_MO_term (d + 1) (0, 0) Q 5 [.ref r0, .int v1] [] μ1
  exact h
set_option maxRecDepth 100000 in
theorem B_MO_term_5 {Γ : XG} {d : Nat} {Q : Option Value → XM → Prop} {r0 : Nat} {x1 : Int32} {μ : XM} (o_r0_11 : ob μ r0 11) (h : ((xI μ r0 11 = w (-1) → Call Γ m_MO_look d [.ref r0] μ (KI (fun v1 μ1 => ((v1 = w 42 → G Γ m_MO_term (d + 1) (0, 0) Q 31 [.ref r0, .int x1] [] μ1) ∧ (¬ v1 = w 42 → Call Γ m_MO_look d [.ref r0] μ1 (KI (fun v2 μ2 => ((v2 = w 47 → G Γ m_MO_term (d + 1) (0, 0) Q 31 [.ref r0, .int x1] [] μ2) ∧ (¬ v2 = w 47 → Q (some (.int x1)) μ2))))))))) ∧ (¬ xI μ r0 11 = w (-1) → Q (some (.int x1)) μ))) : G Γ m_MO_term (d + 1) (0, 0) Q 5 [.ref r0, .int x1] [] μ := by
  refine run_ok (pc' := 10) [(.aload_n 0, 0, 0, 0), (.getfield 141, 11, 11, 0), (.iconst (-1), 0, 0, 0)] _ _ _ _ (by decide +kernel) ?_
  show _ ∧ (_)
  refine ⟨o_r0_11, ?_⟩
  show G Γ m_MO_term (d + 1) (0, 0) Q 10 [.ref r0, .int x1] [.int (w (-1)), .int (xI μ r0 11)] μ
  refine g_icmp_ne (pc' := 94) (off := 84) (by decide) (by decide +kernel) (fun hc => ?_) (fun hc => ?_)
  · replace h := h.2 hc
    show G Γ m_MO_term (d + 1) (0, 0) Q 94 [.ref r0, .int x1] [] μ
    refine run_ok (pc' := 95) [(.iload_n 1, 0, 0, 0)] _ _ _ _ (by decide +kernel) ?_
    show G Γ m_MO_term (d + 1) (0, 0) Q 95 [.ref r0, .int x1] [.int x1] μ
    exact g_reti (by decide +kernel) rfl h
  · replace h := h.1 hc
    show G Γ m_MO_term (d + 1) (0, 0) Q 13 [.ref r0, .int x1] [] μ
    refine run_ok (pc' := 14) [(.aload_n 0, 0, 0, 0)] _ _ _ _ (by decide +kernel) ?_
    show G Γ m_MO_term (d + 1) (0, 0) Q 14 [.ref r0, .int x1] [.ref r0] μ
    refine g_invV (M' := m_MO_look) (b1 := 0) (b2 := 0) (As := []) (a := r0) (st := []) lk_11_151 (by decide +kernel) rfl (dk_MO_look d) (Nat.le_of_ble_eq_true rfl) (Or.inl ⟨11, o_r0_11, rfl⟩) h ?_
    rintro _ μ1 ⟨v1, rfl, h⟩ hn1
    show G Γ m_MO_term (d + 1) (0, 0) Q 17 [.ref r0, .int x1] [.int v1] μ1
    refine run_ok (pc' := 19) [(.bipush 42, 0, 0, 0)] _ _ _ _ (by decide +kernel) ?_
    show G Γ m_MO_term (d + 1) (0, 0) Q 19 [.ref r0, .int x1] [.int (w 42), .int v1] μ1
    refine g_icmp_eq (pc' := 31) (off := 12) (by decide) (by decide +kernel) (fun hc => ?_) (fun hc => ?_)
    · replace h := h.1 hc
      show G Γ m_MO_term (d + 1) (0, 0) Q 31 [.ref r0, .int x1] [] μ1
      exact h
    · replace h := h.2 hc
      show G Γ m_MO_term (d + 1) (0, 0) Q 22 [.ref r0, .int x1] [] μ1
      refine run_ok (pc' := 23) [(.aload_n 0, 0, 0, 0)] _ _ _ _ (by decide +kernel) ?_
      show G Γ m_MO_term (d + 1) (0, 0) Q 23 [.ref r0, .int x1] [.ref r0] μ1
      refine g_invV (M' := m_MO_look) (b1 := 0) (b2 := 0) (As := []) (a := r0) (st := []) lk_11_151 (by decide +kernel) rfl (dk_MO_look d) (Nat.le_of_ble_eq_true rfl) (Or.inl ⟨11, ((o_r0_11).mono hn1), rfl⟩) h ?_
      rintro _ μ2 ⟨v2, rfl, h⟩ hn2
      show G Γ m_MO_term (d + 1) (0, 0) Q 26 [.ref r0, .int x1] [.int v2] μ2
      refine run_ok (pc' := 28) [(.bipush 47, 0, 0, 0)] _ _ _ _ (by decide +kernel) ?_
      show G Γ m_MO_term (d + 1) (0, 0) Q 28 [.ref r0, .int x1] [.int (w 47), .int v2] μ2
      refine g_icmp_ne (pc' := 94) (off := 66) (by decide) (by decide +kernel) (fun hc => ?_) (fun hc => ?_)
      · replace h := h.2 hc
        show G Γ m_MO_term (d + 1) (0, 0) Q 94 [.ref r0, .int x1] [] μ2
        refine run_ok (pc' := 95) [(.iload_n 1, 0, 0, 0)] _ _ _ _ (by decide +kernel) ?_
        show G Γ m_MO_term (d + 1) (0, 0) Q 95 [.ref r0, .int x1] [.int x1] μ2
        exact g_reti (by decide +kernel) rfl h
      · replace h := h.1 hc
        show G Γ m_MO_term (d + 1) (0, 0) Q 31 [.ref r0, .int x1] [] μ2
        exact h
set_option maxRecDepth 100000 in
theorem B_MO_term_31 {Γ : XG} {d : Nat} {Q : Option Value → XM → Prop} {r0 : Nat} {x1 : Int32} {μ : XM} (o_r0_11 : ob μ r0 11) (h : Call Γ m_MO_look d [.ref r0] μ (KI (fun v1 μ1 => ((v1 = w 42 → ∀ μ8, μ8 = sI μ1 r0 10 ((xI μ1 r0 10) + (w 1)) → Call Γ m_MO_atom d [.ref r0] μ8 (KI (fun v9 μ9 => ((w 1 = w 0 → ((lg_cmp (v9.toInt64) (wl 0) = w 0 → Call Γ m_MO_within d [.long (wl 0)] μ9 (KI (fun v12 μ12 => G Γ m_MO_term (d + 1) (0, 0) Q 5 [.ref r0, .int v12] [] μ12))) ∧ (¬ lg_cmp (v9.toInt64) (wl 0) = w 0 → ¬ (v9.toInt64) = 0 ∧ Call Γ m_MO_within d [.long ((x1.toInt64) / (v9.toInt64))] μ9 (KI (fun v11 μ11 => G Γ m_MO_term (d + 1) (0, 0) Q 5 [.ref r0, .int v11] [] μ11))))) ∧ (¬ w 1 = w 0 → Call Γ m_MO_within d [.long ((x1.toInt64) * (v9.toInt64))] μ9 (KI (fun v13 μ13 => G Γ m_MO_term (d + 1) (0, 0) Q 5 [.ref r0, .int v13] [] μ13))))))) ∧ (¬ v1 = w 42 → ∀ μ2, μ2 = sI μ1 r0 10 ((xI μ1 r0 10) + (w 1)) → Call Γ m_MO_atom d [.ref r0] μ2 (KI (fun v3 μ3 => ((w 0 = w 0 → ((lg_cmp (v3.toInt64) (wl 0) = w 0 → Call Γ m_MO_within d [.long (wl 0)] μ3 (KI (fun v6 μ6 => G Γ m_MO_term (d + 1) (0, 0) Q 5 [.ref r0, .int v6] [] μ6))) ∧ (¬ lg_cmp (v3.toInt64) (wl 0) = w 0 → ¬ (v3.toInt64) = 0 ∧ Call Γ m_MO_within d [.long ((x1.toInt64) / (v3.toInt64))] μ3 (KI (fun v5 μ5 => G Γ m_MO_term (d + 1) (0, 0) Q 5 [.ref r0, .int v5] [] μ5))))) ∧ (¬ w 0 = w 0 → Call Γ m_MO_within d [.long ((x1.toInt64) * (v3.toInt64))] μ3 (KI (fun v7 μ7 => G Γ m_MO_term (d + 1) (0, 0) Q 5 [.ref r0, .int v7] [] μ7))))))))))) : G Γ m_MO_term (d + 1) (0, 0) Q 31 [.ref r0, .int x1] [] μ := by
  refine run_ok (pc' := 32) [(.aload_n 0, 0, 0, 0)] _ _ _ _ (by decide +kernel) ?_
  show G Γ m_MO_term (d + 1) (0, 0) Q 32 [.ref r0, .int x1] [.ref r0] μ
  refine g_invV (M' := m_MO_look) (b1 := 0) (b2 := 0) (As := []) (a := r0) (st := []) lk_11_151 (by decide +kernel) rfl (dk_MO_look d) (Nat.le_of_ble_eq_true rfl) (Or.inl ⟨11, o_r0_11, rfl⟩) h ?_
  rintro _ μ1 ⟨v1, rfl, h⟩ hn1
  show G Γ m_MO_term (d + 1) (0, 0) Q 35 [.ref r0, .int x1] [.int v1] μ1
  refine run_ok (pc' := 37) [(.bipush 42, 0, 0, 0)] _ _ _ _ (by decide +kernel) ?_
  show G Γ m_MO_term (d + 1) (0, 0) Q 37 [.ref r0, .int x1] [.int (w 42), .int v1] μ1
  refine g_icmp_ne (pc' := 44) (off := 7) (by decide) (by decide +kernel) (fun hc => ?_) (fun hc => ?_)
  · replace h := h.2 hc
    show G Γ m_MO_term (d + 1) (0, 0) Q 44 [.ref r0, .int x1] [] μ1
    refine run_ok (pc' := 56) [(.iconst 0, 0, 0, 0), (.istore_n 2, 0, 0, 0), (.aload_n 0, 0, 0, 0), (.dup, 0, 0, 0), (.getfield 132, 11, 10, 0), (.iconst 1, 0, 0, 0), (.iadd, 0, 0, 0), (.putfield 132, 11, 10, 0)] _ _ _ _ (by decide +kernel) ?_
    show _ ∧ (_ ∧ (_))
    refine ⟨((o_r0_11).mono hn1), ((o_r0_11).mono hn1), ?_⟩
    show G Γ m_MO_term (d + 1) (0, 0) Q 56 [.ref r0, .int x1, .int (w 0)] [] (sI μ1 r0 10 ((xI μ1 r0 10) + (w 1)))
    obtain ⟨μ2, em2⟩ : ∃ m : XM, m = sI μ1 r0 10 ((xI μ1 r0 10) + (w 1)) := ⟨_, rfl⟩
    replace h := h μ2 em2
    have hm2 : xN μ1 ≤ xN μ2 := by rw [em2]; exact Nat.le_refl _
    rw [← em2]
    refine run_ok (pc' := 57) [(.aload_n 0, 0, 0, 0)] _ _ _ _ (by decide +kernel) ?_
    show G Γ m_MO_term (d + 1) (0, 0) Q 57 [.ref r0, .int x1, .int (w 0)] [.ref r0] μ2
    refine g_invV (M' := m_MO_atom) (b1 := 0) (b2 := 0) (As := []) (a := r0) (st := []) lk_11_184 (by decide +kernel) rfl (dk_MO_atom d) (Nat.le_of_ble_eq_true rfl) (Or.inl ⟨11, (((o_r0_11).mono hn1).mono hm2), rfl⟩) h ?_
    rintro _ μ3 ⟨v3, rfl, h⟩ hn3
    show G Γ m_MO_term (d + 1) (0, 0) Q 60 [.ref r0, .int x1, .int (w 0)] [.int v3] μ3
    refine run_ok (pc' := 63) [(.i2l, 0, 0, 0), (.lstore_n 3, 0, 0, 0), (.iload_n 2, 0, 0, 0)] _ _ _ _ (by decide +kernel) ?_
    show G Γ m_MO_term (d + 1) (0, 0) Q 63 [.ref r0, .int x1, .int (w 0), .long (v3.toInt64), jk] [.int (w 0)] μ3
    refine g_ifz_eq (pc' := 73) (off := 10) (by decide) (by decide +kernel) (fun hc => ?_) (fun hc => ?_)
    · replace h := h.1 hc
      show G Γ m_MO_term (d + 1) (0, 0) Q 73 [.ref r0, .int x1, .int (w 0), .long (v3.toInt64), jk] [] μ3
      refine run_ok (pc' := 76) [(.lload_n 3, 0, 0, 0), (.lconst 0, 0, 0, 0), (.lcmp, 0, 0, 0)] _ _ _ _ (by decide +kernel) ?_
      show G Γ m_MO_term (d + 1) (0, 0) Q 76 [.ref r0, .int x1, .int (w 0), .long (v3.toInt64), jk] [.int (lg_cmp (v3.toInt64) (wl 0))] μ3
      refine g_ifz_ne (pc' := 83) (off := 7) (by decide) (by decide +kernel) (fun hc => ?_) (fun hc => ?_)
      · replace h := h.2 hc
        show G Γ m_MO_term (d + 1) (0, 0) Q 83 [.ref r0, .int x1, .int (w 0), .long (v3.toInt64), jk] [] μ3
        obtain ⟨nz4, h⟩ := h
        refine run_ok (pc' := 87) [(.iload_n 1, 0, 0, 0), (.i2l, 0, 0, 0), (.lload_n 3, 0, 0, 0), (.ldiv, 0, 0, 0)] _ _ _ _ (by decide +kernel) ?_
        show _ ∧ (_)
        refine ⟨nz4, ?_⟩
        show G Γ m_MO_term (d + 1) (0, 0) Q 87 [.ref r0, .int x1, .int (w 0), .long (v3.toInt64), jk] [.long ((x1.toInt64) / (v3.toInt64))] μ3
        refine g_invS (M' := m_MO_within) (b1 := 0) (b2 := 0) (As := [.long ((x1.toInt64) / (v3.toInt64))]) (st := []) lk_11_187 (by decide +kernel) rfl (dk_MO_within d) (Nat.le_of_ble_eq_true rfl) h ?_
        rintro _ μ5 ⟨v5, rfl, h⟩ hn5
        show G Γ m_MO_term (d + 1) (0, 0) Q 90 [.ref r0, .int x1, .int (w 0), .long (v3.toInt64), jk] [.int v5] μ5
        refine run_ok (pc' := 5) [(.istore_n 1, 0, 0, 0), (.goto (-86), 0, 0, 0)] _ _ _ _ (by decide +kernel) ?_
        show G Γ m_MO_term (d + 1) (0, 0) Q 5 [.ref r0, .int v5, .int (w 0), .long (v3.toInt64), jk] [] μ5
        exact g_wk (ls' := [.ref r0, .int v5]) ⟨Or.inr rfl, Or.inr rfl, trivial⟩ h
      · replace h := h.1 hc
        show G Γ m_MO_term (d + 1) (0, 0) Q 79 [.ref r0, .int x1, .int (w 0), .long (v3.toInt64), jk] [] μ3
        refine run_ok (pc' := 87) [(.lconst 0, 0, 0, 0), (.goto 7, 0, 0, 0)] _ _ _ _ (by decide +kernel) ?_
        show G Γ m_MO_term (d + 1) (0, 0) Q 87 [.ref r0, .int x1, .int (w 0), .long (v3.toInt64), jk] [.long (wl 0)] μ3
        refine g_invS (M' := m_MO_within) (b1 := 0) (b2 := 0) (As := [.long (wl 0)]) (st := []) lk_11_187 (by decide +kernel) rfl (dk_MO_within d) (Nat.le_of_ble_eq_true rfl) h ?_
        rintro _ μ6 ⟨v6, rfl, h⟩ hn6
        show G Γ m_MO_term (d + 1) (0, 0) Q 90 [.ref r0, .int x1, .int (w 0), .long (v3.toInt64), jk] [.int v6] μ6
        refine run_ok (pc' := 5) [(.istore_n 1, 0, 0, 0), (.goto (-86), 0, 0, 0)] _ _ _ _ (by decide +kernel) ?_
        show G Γ m_MO_term (d + 1) (0, 0) Q 5 [.ref r0, .int v6, .int (w 0), .long (v3.toInt64), jk] [] μ6
        exact g_wk (ls' := [.ref r0, .int v6]) ⟨Or.inr rfl, Or.inr rfl, trivial⟩ h
    · replace h := h.2 hc
      show G Γ m_MO_term (d + 1) (0, 0) Q 66 [.ref r0, .int x1, .int (w 0), .long (v3.toInt64), jk] [] μ3
      refine run_ok (pc' := 87) [(.iload_n 1, 0, 0, 0), (.i2l, 0, 0, 0), (.lload_n 3, 0, 0, 0), (.lmul, 0, 0, 0), (.goto 17, 0, 0, 0)] _ _ _ _ (by decide +kernel) ?_
      show G Γ m_MO_term (d + 1) (0, 0) Q 87 [.ref r0, .int x1, .int (w 0), .long (v3.toInt64), jk] [.long ((x1.toInt64) * (v3.toInt64))] μ3
      refine g_invS (M' := m_MO_within) (b1 := 0) (b2 := 0) (As := [.long ((x1.toInt64) * (v3.toInt64))]) (st := []) lk_11_187 (by decide +kernel) rfl (dk_MO_within d) (Nat.le_of_ble_eq_true rfl) h ?_
      rintro _ μ7 ⟨v7, rfl, h⟩ hn7
      show G Γ m_MO_term (d + 1) (0, 0) Q 90 [.ref r0, .int x1, .int (w 0), .long (v3.toInt64), jk] [.int v7] μ7
      refine run_ok (pc' := 5) [(.istore_n 1, 0, 0, 0), (.goto (-86), 0, 0, 0)] _ _ _ _ (by decide +kernel) ?_
      show G Γ m_MO_term (d + 1) (0, 0) Q 5 [.ref r0, .int v7, .int (w 0), .long (v3.toInt64), jk] [] μ7
      exact g_wk (ls' := [.ref r0, .int v7]) ⟨Or.inr rfl, Or.inr rfl, trivial⟩ h
  · replace h := h.1 hc
    show G Γ m_MO_term (d + 1) (0, 0) Q 40 [.ref r0, .int x1] [] μ1
    refine run_ok (pc' := 56) [(.iconst 1, 0, 0, 0), (.goto 4, 0, 0, 0), (.istore_n 2, 0, 0, 0), (.aload_n 0, 0, 0, 0), (.dup, 0, 0, 0), (.getfield 132, 11, 10, 0), (.iconst 1, 0, 0, 0), (.iadd, 0, 0, 0), (.putfield 132, 11, 10, 0)] _ _ _ _ (by decide +kernel) ?_
    show _ ∧ (_ ∧ (_))
    refine ⟨((o_r0_11).mono hn1), ((o_r0_11).mono hn1), ?_⟩
    show G Γ m_MO_term (d + 1) (0, 0) Q 56 [.ref r0, .int x1, .int (w 1)] [] (sI μ1 r0 10 ((xI μ1 r0 10) + (w 1)))
    obtain ⟨μ8, em8⟩ : ∃ m : XM, m = sI μ1 r0 10 ((xI μ1 r0 10) + (w 1)) := ⟨_, rfl⟩
    replace h := h μ8 em8
    have hm8 : xN μ1 ≤ xN μ8 := by rw [em8]; exact Nat.le_refl _
    rw [← em8]
    refine run_ok (pc' := 57) [(.aload_n 0, 0, 0, 0)] _ _ _ _ (by decide +kernel) ?_
    show G Γ m_MO_term (d + 1) (0, 0) Q 57 [.ref r0, .int x1, .int (w 1)] [.ref r0] μ8
    refine g_invV (M' := m_MO_atom) (b1 := 0) (b2 := 0) (As := []) (a := r0) (st := []) lk_11_184 (by decide +kernel) rfl (dk_MO_atom d) (Nat.le_of_ble_eq_true rfl) (Or.inl ⟨11, (((o_r0_11).mono hn1).mono hm8), rfl⟩) h ?_
    rintro _ μ9 ⟨v9, rfl, h⟩ hn9
    show G Γ m_MO_term (d + 1) (0, 0) Q 60 [.ref r0, .int x1, .int (w 1)] [.int v9] μ9
    refine run_ok (pc' := 63) [(.i2l, 0, 0, 0), (.lstore_n 3, 0, 0, 0), (.iload_n 2, 0, 0, 0)] _ _ _ _ (by decide +kernel) ?_
    show G Γ m_MO_term (d + 1) (0, 0) Q 63 [.ref r0, .int x1, .int (w 1), .long (v9.toInt64), jk] [.int (w 1)] μ9
    refine g_ifz_eq (pc' := 73) (off := 10) (by decide) (by decide +kernel) (fun hc => ?_) (fun hc => ?_)
    · replace h := h.1 hc
      show G Γ m_MO_term (d + 1) (0, 0) Q 73 [.ref r0, .int x1, .int (w 1), .long (v9.toInt64), jk] [] μ9
      refine run_ok (pc' := 76) [(.lload_n 3, 0, 0, 0), (.lconst 0, 0, 0, 0), (.lcmp, 0, 0, 0)] _ _ _ _ (by decide +kernel) ?_
      show G Γ m_MO_term (d + 1) (0, 0) Q 76 [.ref r0, .int x1, .int (w 1), .long (v9.toInt64), jk] [.int (lg_cmp (v9.toInt64) (wl 0))] μ9
      refine g_ifz_ne (pc' := 83) (off := 7) (by decide) (by decide +kernel) (fun hc => ?_) (fun hc => ?_)
      · replace h := h.2 hc
        show G Γ m_MO_term (d + 1) (0, 0) Q 83 [.ref r0, .int x1, .int (w 1), .long (v9.toInt64), jk] [] μ9
        obtain ⟨nz10, h⟩ := h
        refine run_ok (pc' := 87) [(.iload_n 1, 0, 0, 0), (.i2l, 0, 0, 0), (.lload_n 3, 0, 0, 0), (.ldiv, 0, 0, 0)] _ _ _ _ (by decide +kernel) ?_
        show _ ∧ (_)
        refine ⟨nz10, ?_⟩
        show G Γ m_MO_term (d + 1) (0, 0) Q 87 [.ref r0, .int x1, .int (w 1), .long (v9.toInt64), jk] [.long ((x1.toInt64) / (v9.toInt64))] μ9
        refine g_invS (M' := m_MO_within) (b1 := 0) (b2 := 0) (As := [.long ((x1.toInt64) / (v9.toInt64))]) (st := []) lk_11_187 (by decide +kernel) rfl (dk_MO_within d) (Nat.le_of_ble_eq_true rfl) h ?_
        rintro _ μ11 ⟨v11, rfl, h⟩ hn11
        show G Γ m_MO_term (d + 1) (0, 0) Q 90 [.ref r0, .int x1, .int (w 1), .long (v9.toInt64), jk] [.int v11] μ11
        refine run_ok (pc' := 5) [(.istore_n 1, 0, 0, 0), (.goto (-86), 0, 0, 0)] _ _ _ _ (by decide +kernel) ?_
        show G Γ m_MO_term (d + 1) (0, 0) Q 5 [.ref r0, .int v11, .int (w 1), .long (v9.toInt64), jk] [] μ11
        exact g_wk (ls' := [.ref r0, .int v11]) ⟨Or.inr rfl, Or.inr rfl, trivial⟩ h
      · replace h := h.1 hc
        show G Γ m_MO_term (d + 1) (0, 0) Q 79 [.ref r0, .int x1, .int (w 1), .long (v9.toInt64), jk] [] μ9
        refine run_ok (pc' := 87) [(.lconst 0, 0, 0, 0), (.goto 7, 0, 0, 0)] _ _ _ _ (by decide +kernel) ?_
        show G Γ m_MO_term (d + 1) (0, 0) Q 87 [.ref r0, .int x1, .int (w 1), .long (v9.toInt64), jk] [.long (wl 0)] μ9
        refine g_invS (M' := m_MO_within) (b1 := 0) (b2 := 0) (As := [.long (wl 0)]) (st := []) lk_11_187 (by decide +kernel) rfl (dk_MO_within d) (Nat.le_of_ble_eq_true rfl) h ?_
        rintro _ μ12 ⟨v12, rfl, h⟩ hn12
        show G Γ m_MO_term (d + 1) (0, 0) Q 90 [.ref r0, .int x1, .int (w 1), .long (v9.toInt64), jk] [.int v12] μ12
        refine run_ok (pc' := 5) [(.istore_n 1, 0, 0, 0), (.goto (-86), 0, 0, 0)] _ _ _ _ (by decide +kernel) ?_
        show G Γ m_MO_term (d + 1) (0, 0) Q 5 [.ref r0, .int v12, .int (w 1), .long (v9.toInt64), jk] [] μ12
        exact g_wk (ls' := [.ref r0, .int v12]) ⟨Or.inr rfl, Or.inr rfl, trivial⟩ h
    · replace h := h.2 hc
      show G Γ m_MO_term (d + 1) (0, 0) Q 66 [.ref r0, .int x1, .int (w 1), .long (v9.toInt64), jk] [] μ9
      refine run_ok (pc' := 87) [(.iload_n 1, 0, 0, 0), (.i2l, 0, 0, 0), (.lload_n 3, 0, 0, 0), (.lmul, 0, 0, 0), (.goto 17, 0, 0, 0)] _ _ _ _ (by decide +kernel) ?_
      show G Γ m_MO_term (d + 1) (0, 0) Q 87 [.ref r0, .int x1, .int (w 1), .long (v9.toInt64), jk] [.long ((x1.toInt64) * (v9.toInt64))] μ9
      refine g_invS (M' := m_MO_within) (b1 := 0) (b2 := 0) (As := [.long ((x1.toInt64) * (v9.toInt64))]) (st := []) lk_11_187 (by decide +kernel) rfl (dk_MO_within d) (Nat.le_of_ble_eq_true rfl) h ?_
      rintro _ μ13 ⟨v13, rfl, h⟩ hn13
      show G Γ m_MO_term (d + 1) (0, 0) Q 90 [.ref r0, .int x1, .int (w 1), .long (v9.toInt64), jk] [.int v13] μ13
      refine run_ok (pc' := 5) [(.istore_n 1, 0, 0, 0), (.goto (-86), 0, 0, 0)] _ _ _ _ (by decide +kernel) ?_
      show G Γ m_MO_term (d + 1) (0, 0) Q 5 [.ref r0, .int v13, .int (w 1), .long (v9.toInt64), jk] [] μ13
      exact g_wk (ls' := [.ref r0, .int v13]) ⟨Or.inr rfl, Or.inr rfl, trivial⟩ h
/-! FrostBoxModel sum()I -/
set_option maxRecDepth 100000 in
theorem lk_11_191 : LkV 11 191 m_MO_term 0 := ⟨lc_MO_term, lwG_in (List.mem_of_getElem? (i := 1541) rfl) rfl, lwG_in (List.mem_of_getElem? (i := 1543) rfl) rfl, lwG_in (List.mem_of_getElem? (i := 68) rfl) rfl⟩
set_option maxRecDepth 100000 in
theorem B_MO_sum_0 {Γ : XG} {d : Nat} {Q : Option Value → XM → Prop} {r0 : Nat} {μ : XM} (o_r0_11 : ob μ r0 11) (h : Call Γ m_MO_term d [.ref r0] μ (KI (fun v1 μ1 => G Γ m_MO_sum (d + 1) (0, 0) Q 5 [.ref r0, .int v1] [] μ1))) : G Γ m_MO_sum (d + 1) (0, 0) Q 0 [.ref r0] [] μ := by
  refine run_ok (pc' := 1) [(.aload_n 0, 0, 0, 0)] _ _ _ _ (by decide +kernel) ?_
  show G Γ m_MO_sum (d + 1) (0, 0) Q 1 [.ref r0] [.ref r0] μ
  refine g_invV (M' := m_MO_term) (b1 := 0) (b2 := 0) (As := []) (a := r0) (st := []) lk_11_191 (by decide +kernel) rfl (dk_MO_term d) (Nat.le_of_ble_eq_true rfl) (Or.inl ⟨11, o_r0_11, rfl⟩) h ?_
  rintro _ μ1 ⟨v1, rfl, h⟩ hn1
  show G Γ m_MO_sum (d + 1) (0, 0) Q 4 [.ref r0] [.int v1] μ1
  refine run_ok (pc' := 5) [(.istore_n 1, 0, 0, 0)] _ _ _ _ (by decide +kernel) ?_
  show G Γ m_MO_sum (d + 1) (0, 0) Q 5 [.ref r0, .int v1] [] μ1
  exact h
set_option maxRecDepth 100000 in
theorem B_MO_sum_5 {Γ : XG} {d : Nat} {Q : Option Value → XM → Prop} {r0 : Nat} {x1 : Int32} {μ : XM} (o_r0_11 : ob μ r0 11) (h : ((xI μ r0 11 = w (-1) → Call Γ m_MO_look d [.ref r0] μ (KI (fun v1 μ1 => ((v1 = w 43 → G Γ m_MO_sum (d + 1) (0, 0) Q 31 [.ref r0, .int x1] [] μ1) ∧ (¬ v1 = w 43 → Call Γ m_MO_look d [.ref r0] μ1 (KI (fun v2 μ2 => ((v2 = w 45 → G Γ m_MO_sum (d + 1) (0, 0) Q 31 [.ref r0, .int x1] [] μ2) ∧ (¬ v2 = w 45 → Q (some (.int x1)) μ2))))))))) ∧ (¬ xI μ r0 11 = w (-1) → Q (some (.int x1)) μ))) : G Γ m_MO_sum (d + 1) (0, 0) Q 5 [.ref r0, .int x1] [] μ := by
  refine run_ok (pc' := 10) [(.aload_n 0, 0, 0, 0), (.getfield 141, 11, 11, 0), (.iconst (-1), 0, 0, 0)] _ _ _ _ (by decide +kernel) ?_
  show _ ∧ (_)
  refine ⟨o_r0_11, ?_⟩
  show G Γ m_MO_sum (d + 1) (0, 0) Q 10 [.ref r0, .int x1] [.int (w (-1)), .int (xI μ r0 11)] μ
  refine g_icmp_ne (pc' := 84) (off := 74) (by decide) (by decide +kernel) (fun hc => ?_) (fun hc => ?_)
  · replace h := h.2 hc
    show G Γ m_MO_sum (d + 1) (0, 0) Q 84 [.ref r0, .int x1] [] μ
    refine run_ok (pc' := 85) [(.iload_n 1, 0, 0, 0)] _ _ _ _ (by decide +kernel) ?_
    show G Γ m_MO_sum (d + 1) (0, 0) Q 85 [.ref r0, .int x1] [.int x1] μ
    exact g_reti (by decide +kernel) rfl h
  · replace h := h.1 hc
    show G Γ m_MO_sum (d + 1) (0, 0) Q 13 [.ref r0, .int x1] [] μ
    refine run_ok (pc' := 14) [(.aload_n 0, 0, 0, 0)] _ _ _ _ (by decide +kernel) ?_
    show G Γ m_MO_sum (d + 1) (0, 0) Q 14 [.ref r0, .int x1] [.ref r0] μ
    refine g_invV (M' := m_MO_look) (b1 := 0) (b2 := 0) (As := []) (a := r0) (st := []) lk_11_151 (by decide +kernel) rfl (dk_MO_look d) (Nat.le_of_ble_eq_true rfl) (Or.inl ⟨11, o_r0_11, rfl⟩) h ?_
    rintro _ μ1 ⟨v1, rfl, h⟩ hn1
    show G Γ m_MO_sum (d + 1) (0, 0) Q 17 [.ref r0, .int x1] [.int v1] μ1
    refine run_ok (pc' := 19) [(.bipush 43, 0, 0, 0)] _ _ _ _ (by decide +kernel) ?_
    show G Γ m_MO_sum (d + 1) (0, 0) Q 19 [.ref r0, .int x1] [.int (w 43), .int v1] μ1
    refine g_icmp_eq (pc' := 31) (off := 12) (by decide) (by decide +kernel) (fun hc => ?_) (fun hc => ?_)
    · replace h := h.1 hc
      show G Γ m_MO_sum (d + 1) (0, 0) Q 31 [.ref r0, .int x1] [] μ1
      exact h
    · replace h := h.2 hc
      show G Γ m_MO_sum (d + 1) (0, 0) Q 22 [.ref r0, .int x1] [] μ1
      refine run_ok (pc' := 23) [(.aload_n 0, 0, 0, 0)] _ _ _ _ (by decide +kernel) ?_
      show G Γ m_MO_sum (d + 1) (0, 0) Q 23 [.ref r0, .int x1] [.ref r0] μ1
      refine g_invV (M' := m_MO_look) (b1 := 0) (b2 := 0) (As := []) (a := r0) (st := []) lk_11_151 (by decide +kernel) rfl (dk_MO_look d) (Nat.le_of_ble_eq_true rfl) (Or.inl ⟨11, ((o_r0_11).mono hn1), rfl⟩) h ?_
      rintro _ μ2 ⟨v2, rfl, h⟩ hn2
      show G Γ m_MO_sum (d + 1) (0, 0) Q 26 [.ref r0, .int x1] [.int v2] μ2
      refine run_ok (pc' := 28) [(.bipush 45, 0, 0, 0)] _ _ _ _ (by decide +kernel) ?_
      show G Γ m_MO_sum (d + 1) (0, 0) Q 28 [.ref r0, .int x1] [.int (w 45), .int v2] μ2
      refine g_icmp_ne (pc' := 84) (off := 56) (by decide) (by decide +kernel) (fun hc => ?_) (fun hc => ?_)
      · replace h := h.2 hc
        show G Γ m_MO_sum (d + 1) (0, 0) Q 84 [.ref r0, .int x1] [] μ2
        refine run_ok (pc' := 85) [(.iload_n 1, 0, 0, 0)] _ _ _ _ (by decide +kernel) ?_
        show G Γ m_MO_sum (d + 1) (0, 0) Q 85 [.ref r0, .int x1] [.int x1] μ2
        exact g_reti (by decide +kernel) rfl h
      · replace h := h.1 hc
        show G Γ m_MO_sum (d + 1) (0, 0) Q 31 [.ref r0, .int x1] [] μ2
        exact h
set_option maxRecDepth 100000 in
theorem B_MO_sum_31 {Γ : XG} {d : Nat} {Q : Option Value → XM → Prop} {r0 : Nat} {x1 : Int32} {μ : XM} (o_r0_11 : ob μ r0 11) (h : Call Γ m_MO_look d [.ref r0] μ (KI (fun v1 μ1 => ((v1 = w 43 → ∀ μ6, μ6 = sI μ1 r0 10 ((xI μ1 r0 10) + (w 1)) → Call Γ m_MO_term d [.ref r0] μ6 (KI (fun v7 μ7 => ((w 1 = w 0 → Call Γ m_MO_within d [.long ((x1.toInt64) - (v7.toInt64))] μ7 (KI (fun v8 μ8 => G Γ m_MO_sum (d + 1) (0, 0) Q 5 [.ref r0, .int v8] [] μ8))) ∧ (¬ w 1 = w 0 → Call Γ m_MO_within d [.long ((x1.toInt64) + (v7.toInt64))] μ7 (KI (fun v9 μ9 => G Γ m_MO_sum (d + 1) (0, 0) Q 5 [.ref r0, .int v9] [] μ9))))))) ∧ (¬ v1 = w 43 → ∀ μ2, μ2 = sI μ1 r0 10 ((xI μ1 r0 10) + (w 1)) → Call Γ m_MO_term d [.ref r0] μ2 (KI (fun v3 μ3 => ((w 0 = w 0 → Call Γ m_MO_within d [.long ((x1.toInt64) - (v3.toInt64))] μ3 (KI (fun v4 μ4 => G Γ m_MO_sum (d + 1) (0, 0) Q 5 [.ref r0, .int v4] [] μ4))) ∧ (¬ w 0 = w 0 → Call Γ m_MO_within d [.long ((x1.toInt64) + (v3.toInt64))] μ3 (KI (fun v5 μ5 => G Γ m_MO_sum (d + 1) (0, 0) Q 5 [.ref r0, .int v5] [] μ5))))))))))) : G Γ m_MO_sum (d + 1) (0, 0) Q 31 [.ref r0, .int x1] [] μ := by
  refine run_ok (pc' := 32) [(.aload_n 0, 0, 0, 0)] _ _ _ _ (by decide +kernel) ?_
  show G Γ m_MO_sum (d + 1) (0, 0) Q 32 [.ref r0, .int x1] [.ref r0] μ
  refine g_invV (M' := m_MO_look) (b1 := 0) (b2 := 0) (As := []) (a := r0) (st := []) lk_11_151 (by decide +kernel) rfl (dk_MO_look d) (Nat.le_of_ble_eq_true rfl) (Or.inl ⟨11, o_r0_11, rfl⟩) h ?_
  rintro _ μ1 ⟨v1, rfl, h⟩ hn1
  show G Γ m_MO_sum (d + 1) (0, 0) Q 35 [.ref r0, .int x1] [.int v1] μ1
  refine run_ok (pc' := 37) [(.bipush 43, 0, 0, 0)] _ _ _ _ (by decide +kernel) ?_
  show G Γ m_MO_sum (d + 1) (0, 0) Q 37 [.ref r0, .int x1] [.int (w 43), .int v1] μ1
  refine g_icmp_ne (pc' := 44) (off := 7) (by decide) (by decide +kernel) (fun hc => ?_) (fun hc => ?_)
  · replace h := h.2 hc
    show G Γ m_MO_sum (d + 1) (0, 0) Q 44 [.ref r0, .int x1] [] μ1
    refine run_ok (pc' := 56) [(.iconst 0, 0, 0, 0), (.istore_n 2, 0, 0, 0), (.aload_n 0, 0, 0, 0), (.dup, 0, 0, 0), (.getfield 132, 11, 10, 0), (.iconst 1, 0, 0, 0), (.iadd, 0, 0, 0), (.putfield 132, 11, 10, 0)] _ _ _ _ (by decide +kernel) ?_
    show _ ∧ (_ ∧ (_))
    refine ⟨((o_r0_11).mono hn1), ((o_r0_11).mono hn1), ?_⟩
    show G Γ m_MO_sum (d + 1) (0, 0) Q 56 [.ref r0, .int x1, .int (w 0)] [] (sI μ1 r0 10 ((xI μ1 r0 10) + (w 1)))
    obtain ⟨μ2, em2⟩ : ∃ m : XM, m = sI μ1 r0 10 ((xI μ1 r0 10) + (w 1)) := ⟨_, rfl⟩
    replace h := h μ2 em2
    have hm2 : xN μ1 ≤ xN μ2 := by rw [em2]; exact Nat.le_refl _
    rw [← em2]
    refine run_ok (pc' := 57) [(.aload_n 0, 0, 0, 0)] _ _ _ _ (by decide +kernel) ?_
    show G Γ m_MO_sum (d + 1) (0, 0) Q 57 [.ref r0, .int x1, .int (w 0)] [.ref r0] μ2
    refine g_invV (M' := m_MO_term) (b1 := 0) (b2 := 0) (As := []) (a := r0) (st := []) lk_11_191 (by decide +kernel) rfl (dk_MO_term d) (Nat.le_of_ble_eq_true rfl) (Or.inl ⟨11, (((o_r0_11).mono hn1).mono hm2), rfl⟩) h ?_
    rintro _ μ3 ⟨v3, rfl, h⟩ hn3
    show G Γ m_MO_sum (d + 1) (0, 0) Q 60 [.ref r0, .int x1, .int (w 0)] [.int v3] μ3
    refine run_ok (pc' := 63) [(.i2l, 0, 0, 0), (.lstore_n 3, 0, 0, 0), (.iload_n 2, 0, 0, 0)] _ _ _ _ (by decide +kernel) ?_
    show G Γ m_MO_sum (d + 1) (0, 0) Q 63 [.ref r0, .int x1, .int (w 0), .long (v3.toInt64), jk] [.int (w 0)] μ3
    refine g_ifz_eq (pc' := 73) (off := 10) (by decide) (by decide +kernel) (fun hc => ?_) (fun hc => ?_)
    · replace h := h.1 hc
      show G Γ m_MO_sum (d + 1) (0, 0) Q 73 [.ref r0, .int x1, .int (w 0), .long (v3.toInt64), jk] [] μ3
      refine run_ok (pc' := 77) [(.iload_n 1, 0, 0, 0), (.i2l, 0, 0, 0), (.lload_n 3, 0, 0, 0), (.lsub, 0, 0, 0)] _ _ _ _ (by decide +kernel) ?_
      show G Γ m_MO_sum (d + 1) (0, 0) Q 77 [.ref r0, .int x1, .int (w 0), .long (v3.toInt64), jk] [.long ((x1.toInt64) - (v3.toInt64))] μ3
      refine g_invS (M' := m_MO_within) (b1 := 0) (b2 := 0) (As := [.long ((x1.toInt64) - (v3.toInt64))]) (st := []) lk_11_187 (by decide +kernel) rfl (dk_MO_within d) (Nat.le_of_ble_eq_true rfl) h ?_
      rintro _ μ4 ⟨v4, rfl, h⟩ hn4
      show G Γ m_MO_sum (d + 1) (0, 0) Q 80 [.ref r0, .int x1, .int (w 0), .long (v3.toInt64), jk] [.int v4] μ4
      refine run_ok (pc' := 5) [(.istore_n 1, 0, 0, 0), (.goto (-76), 0, 0, 0)] _ _ _ _ (by decide +kernel) ?_
      show G Γ m_MO_sum (d + 1) (0, 0) Q 5 [.ref r0, .int v4, .int (w 0), .long (v3.toInt64), jk] [] μ4
      exact g_wk (ls' := [.ref r0, .int v4]) ⟨Or.inr rfl, Or.inr rfl, trivial⟩ h
    · replace h := h.2 hc
      show G Γ m_MO_sum (d + 1) (0, 0) Q 66 [.ref r0, .int x1, .int (w 0), .long (v3.toInt64), jk] [] μ3
      refine run_ok (pc' := 77) [(.iload_n 1, 0, 0, 0), (.i2l, 0, 0, 0), (.lload_n 3, 0, 0, 0), (.ladd, 0, 0, 0), (.goto 7, 0, 0, 0)] _ _ _ _ (by decide +kernel) ?_
      show G Γ m_MO_sum (d + 1) (0, 0) Q 77 [.ref r0, .int x1, .int (w 0), .long (v3.toInt64), jk] [.long ((x1.toInt64) + (v3.toInt64))] μ3
      refine g_invS (M' := m_MO_within) (b1 := 0) (b2 := 0) (As := [.long ((x1.toInt64) + (v3.toInt64))]) (st := []) lk_11_187 (by decide +kernel) rfl (dk_MO_within d) (Nat.le_of_ble_eq_true rfl) h ?_
      rintro _ μ5 ⟨v5, rfl, h⟩ hn5
      show G Γ m_MO_sum (d + 1) (0, 0) Q 80 [.ref r0, .int x1, .int (w 0), .long (v3.toInt64), jk] [.int v5] μ5
      refine run_ok (pc' := 5) [(.istore_n 1, 0, 0, 0), (.goto (-76), 0, 0, 0)] _ _ _ _ (by decide +kernel) ?_
      show G Γ m_MO_sum (d + 1) (0, 0) Q 5 [.ref r0, .int v5, .int (w 0), .long (v3.toInt64), jk] [] μ5
      exact g_wk (ls' := [.ref r0, .int v5]) ⟨Or.inr rfl, Or.inr rfl, trivial⟩ h
  · replace h := h.1 hc
    show G Γ m_MO_sum (d + 1) (0, 0) Q 40 [.ref r0, .int x1] [] μ1
    refine run_ok (pc' := 56) [(.iconst 1, 0, 0, 0), (.goto 4, 0, 0, 0), (.istore_n 2, 0, 0, 0), (.aload_n 0, 0, 0, 0), (.dup, 0, 0, 0), (.getfield 132, 11, 10, 0), (.iconst 1, 0, 0, 0), (.iadd, 0, 0, 0), (.putfield 132, 11, 10, 0)] _ _ _ _ (by decide +kernel) ?_
    show _ ∧ (_ ∧ (_))
    refine ⟨((o_r0_11).mono hn1), ((o_r0_11).mono hn1), ?_⟩
    show G Γ m_MO_sum (d + 1) (0, 0) Q 56 [.ref r0, .int x1, .int (w 1)] [] (sI μ1 r0 10 ((xI μ1 r0 10) + (w 1)))
    obtain ⟨μ6, em6⟩ : ∃ m : XM, m = sI μ1 r0 10 ((xI μ1 r0 10) + (w 1)) := ⟨_, rfl⟩
    replace h := h μ6 em6
    have hm6 : xN μ1 ≤ xN μ6 := by rw [em6]; exact Nat.le_refl _
    rw [← em6]
    refine run_ok (pc' := 57) [(.aload_n 0, 0, 0, 0)] _ _ _ _ (by decide +kernel) ?_
    show G Γ m_MO_sum (d + 1) (0, 0) Q 57 [.ref r0, .int x1, .int (w 1)] [.ref r0] μ6
    refine g_invV (M' := m_MO_term) (b1 := 0) (b2 := 0) (As := []) (a := r0) (st := []) lk_11_191 (by decide +kernel) rfl (dk_MO_term d) (Nat.le_of_ble_eq_true rfl) (Or.inl ⟨11, (((o_r0_11).mono hn1).mono hm6), rfl⟩) h ?_
    rintro _ μ7 ⟨v7, rfl, h⟩ hn7
    show G Γ m_MO_sum (d + 1) (0, 0) Q 60 [.ref r0, .int x1, .int (w 1)] [.int v7] μ7
    refine run_ok (pc' := 63) [(.i2l, 0, 0, 0), (.lstore_n 3, 0, 0, 0), (.iload_n 2, 0, 0, 0)] _ _ _ _ (by decide +kernel) ?_
    show G Γ m_MO_sum (d + 1) (0, 0) Q 63 [.ref r0, .int x1, .int (w 1), .long (v7.toInt64), jk] [.int (w 1)] μ7
    refine g_ifz_eq (pc' := 73) (off := 10) (by decide) (by decide +kernel) (fun hc => ?_) (fun hc => ?_)
    · replace h := h.1 hc
      show G Γ m_MO_sum (d + 1) (0, 0) Q 73 [.ref r0, .int x1, .int (w 1), .long (v7.toInt64), jk] [] μ7
      refine run_ok (pc' := 77) [(.iload_n 1, 0, 0, 0), (.i2l, 0, 0, 0), (.lload_n 3, 0, 0, 0), (.lsub, 0, 0, 0)] _ _ _ _ (by decide +kernel) ?_
      show G Γ m_MO_sum (d + 1) (0, 0) Q 77 [.ref r0, .int x1, .int (w 1), .long (v7.toInt64), jk] [.long ((x1.toInt64) - (v7.toInt64))] μ7
      refine g_invS (M' := m_MO_within) (b1 := 0) (b2 := 0) (As := [.long ((x1.toInt64) - (v7.toInt64))]) (st := []) lk_11_187 (by decide +kernel) rfl (dk_MO_within d) (Nat.le_of_ble_eq_true rfl) h ?_
      rintro _ μ8 ⟨v8, rfl, h⟩ hn8
      show G Γ m_MO_sum (d + 1) (0, 0) Q 80 [.ref r0, .int x1, .int (w 1), .long (v7.toInt64), jk] [.int v8] μ8
      refine run_ok (pc' := 5) [(.istore_n 1, 0, 0, 0), (.goto (-76), 0, 0, 0)] _ _ _ _ (by decide +kernel) ?_
      show G Γ m_MO_sum (d + 1) (0, 0) Q 5 [.ref r0, .int v8, .int (w 1), .long (v7.toInt64), jk] [] μ8
      exact g_wk (ls' := [.ref r0, .int v8]) ⟨Or.inr rfl, Or.inr rfl, trivial⟩ h
    · replace h := h.2 hc
      show G Γ m_MO_sum (d + 1) (0, 0) Q 66 [.ref r0, .int x1, .int (w 1), .long (v7.toInt64), jk] [] μ7
      refine run_ok (pc' := 77) [(.iload_n 1, 0, 0, 0), (.i2l, 0, 0, 0), (.lload_n 3, 0, 0, 0), (.ladd, 0, 0, 0), (.goto 7, 0, 0, 0)] _ _ _ _ (by decide +kernel) ?_
      show G Γ m_MO_sum (d + 1) (0, 0) Q 77 [.ref r0, .int x1, .int (w 1), .long (v7.toInt64), jk] [.long ((x1.toInt64) + (v7.toInt64))] μ7
      refine g_invS (M' := m_MO_within) (b1 := 0) (b2 := 0) (As := [.long ((x1.toInt64) + (v7.toInt64))]) (st := []) lk_11_187 (by decide +kernel) rfl (dk_MO_within d) (Nat.le_of_ble_eq_true rfl) h ?_
      rintro _ μ9 ⟨v9, rfl, h⟩ hn9
      show G Γ m_MO_sum (d + 1) (0, 0) Q 80 [.ref r0, .int x1, .int (w 1), .long (v7.toInt64), jk] [.int v9] μ9
      refine run_ok (pc' := 5) [(.istore_n 1, 0, 0, 0), (.goto (-76), 0, 0, 0)] _ _ _ _ (by decide +kernel) ?_
      show G Γ m_MO_sum (d + 1) (0, 0) Q 5 [.ref r0, .int v9, .int (w 1), .long (v7.toInt64), jk] [] μ9
      exact g_wk (ls' := [.ref r0, .int v9]) ⟨Or.inr rfl, Or.inr rfl, trivial⟩ h
/-! FrostBoxModel isSign(I)Z -/
set_option maxRecDepth 100000 in
theorem B_MO_isSign_0 {Γ : XG} {d : Nat} {Q : Option Value → XM → Prop} {x0 : Int32} {μ : XM}  (h : ((x0 = w 61 → Q (some (.int (w 1))) μ) ∧ (¬ x0 = w 61 → ((x0 = w 60 → Q (some (.int (w 1))) μ) ∧ (¬ x0 = w 60 → ((x0 = w 62 → Q (some (.int (w 1))) μ) ∧ (¬ x0 = w 62 → Q (some (.int (w 0))) μ))))))) : G Γ m_MO_isSign (d + 1) (0, 0) Q 0 [.int x0] [] μ := by
  refine run_ok (pc' := 3) [(.iload_n 0, 0, 0, 0), (.bipush 61, 0, 0, 0)] _ _ _ _ (by decide +kernel) ?_
  show G Γ m_MO_isSign (d + 1) (0, 0) Q 3 [.int x0] [.int (w 61), .int x0] μ
  refine g_icmp_eq (pc' := 18) (off := 15) (by decide) (by decide +kernel) (fun hc => ?_) (fun hc => ?_)
  · replace h := h.1 hc
    show G Γ m_MO_isSign (d + 1) (0, 0) Q 18 [.int x0] [] μ
    refine run_ok (pc' := 23) [(.iconst 1, 0, 0, 0), (.goto 4, 0, 0, 0)] _ _ _ _ (by decide +kernel) ?_
    show G Γ m_MO_isSign (d + 1) (0, 0) Q 23 [.int x0] [.int (w 1)] μ
    exact g_retz (by decide +kernel) rfl (Or.inr rfl) h
  · replace h := h.2 hc
    show G Γ m_MO_isSign (d + 1) (0, 0) Q 6 [.int x0] [] μ
    refine run_ok (pc' := 9) [(.iload_n 0, 0, 0, 0), (.bipush 60, 0, 0, 0)] _ _ _ _ (by decide +kernel) ?_
    show G Γ m_MO_isSign (d + 1) (0, 0) Q 9 [.int x0] [.int (w 60), .int x0] μ
    refine g_icmp_eq (pc' := 18) (off := 9) (by decide) (by decide +kernel) (fun hc => ?_) (fun hc => ?_)
    · replace h := h.1 hc
      show G Γ m_MO_isSign (d + 1) (0, 0) Q 18 [.int x0] [] μ
      refine run_ok (pc' := 23) [(.iconst 1, 0, 0, 0), (.goto 4, 0, 0, 0)] _ _ _ _ (by decide +kernel) ?_
      show G Γ m_MO_isSign (d + 1) (0, 0) Q 23 [.int x0] [.int (w 1)] μ
      exact g_retz (by decide +kernel) rfl (Or.inr rfl) h
    · replace h := h.2 hc
      show G Γ m_MO_isSign (d + 1) (0, 0) Q 12 [.int x0] [] μ
      refine run_ok (pc' := 15) [(.iload_n 0, 0, 0, 0), (.bipush 62, 0, 0, 0)] _ _ _ _ (by decide +kernel) ?_
      show G Γ m_MO_isSign (d + 1) (0, 0) Q 15 [.int x0] [.int (w 62), .int x0] μ
      refine g_icmp_ne (pc' := 22) (off := 7) (by decide) (by decide +kernel) (fun hc => ?_) (fun hc => ?_)
      · replace h := h.2 hc
        show G Γ m_MO_isSign (d + 1) (0, 0) Q 22 [.int x0] [] μ
        refine run_ok (pc' := 23) [(.iconst 0, 0, 0, 0)] _ _ _ _ (by decide +kernel) ?_
        show G Γ m_MO_isSign (d + 1) (0, 0) Q 23 [.int x0] [.int (w 0)] μ
        exact g_retz (by decide +kernel) rfl (Or.inl rfl) h
      · replace h := h.1 hc
        show G Γ m_MO_isSign (d + 1) (0, 0) Q 18 [.int x0] [] μ
        refine run_ok (pc' := 23) [(.iconst 1, 0, 0, 0), (.goto 4, 0, 0, 0)] _ _ _ _ (by decide +kernel) ?_
        show G Γ m_MO_isSign (d + 1) (0, 0) Q 23 [.int x0] [.int (w 1)] μ
        exact g_retz (by decide +kernel) rfl (Or.inr rfl) h
/-! FrostBoxModel compares(ZI)Z -/
set_option maxRecDepth 100000 in
theorem lk_11_194 : LkS 11 194 m_MO_isSign 1 := ⟨lc_MO_isSign, lwG_in (List.mem_of_getElem? (i := 1560) rfl) rfl, lwG_in (List.mem_of_getElem? (i := 1561) rfl) rfl⟩
set_option maxRecDepth 100000 in
theorem B_MO_compares_0 {Γ : XG} {d : Nat} {Q : Option Value → XM → Prop} {r0 : Nat} {x1 x2 : Int32} {μ : XM} (o_r0_11 : ob μ r0 11) (h : ((x1 = w 0 → Call Γ m_MO_sum d [.ref r0] μ (KI (fun v1 μ1 => ((xI μ1 r0 11 = w (-1) → Call Γ m_MO_look d [.ref r0] μ1 (KI (fun v2 μ2 => Call Γ m_MO_isSign d [.int v2] μ2 (KI (fun v3 μ3 => ((v3 = w 0 → Call Γ m_MO_fails d [.ref r0] μ3 (KI (fun v6 μ6 => ((v6 = w 0 ∨ v6 = w 1) ∧ Q (some (.int v6)) μ6)))) ∧ (¬ v3 = w 0 → ∀ μ4, μ4 = sI μ3 r0 10 ((xI μ3 r0 10) + (w 1)) → Call Γ m_MO_sum d [.ref r0] μ4 (KI (fun v5 μ5 => ((v2 = w 61 → ((v1 = v5 → Q (some (.int (w 1))) μ5) ∧ (¬ v1 = v5 → Q (some (.int (w 0))) μ5))) ∧ (¬ v2 = w 61 → ((v2 = w 60 → ((v1 < v5 → Q (some (.int (w 1))) μ5) ∧ (¬ v1 < v5 → Q (some (.int (w 0))) μ5))) ∧ (¬ v2 = w 60 → ((v5 < v1 → Q (some (.int (w 1))) μ5) ∧ (¬ v5 < v1 → Q (some (.int (w 0))) μ5))))))))))))))) ∧ (¬ xI μ1 r0 11 = w (-1) → Q (some (.int (w 0))) μ1))))) ∧ (¬ x1 = w 0 → ((xI μ r0 11 = w (-1) → Call Γ m_MO_look d [.ref r0] μ (KI (fun v7 μ7 => Call Γ m_MO_isSign d [.int v7] μ7 (KI (fun v8 μ8 => ((v8 = w 0 → Call Γ m_MO_fails d [.ref r0] μ8 (KI (fun v11 μ11 => ((v11 = w 0 ∨ v11 = w 1) ∧ Q (some (.int v11)) μ11)))) ∧ (¬ v8 = w 0 → ∀ μ9, μ9 = sI μ8 r0 10 ((xI μ8 r0 10) + (w 1)) → Call Γ m_MO_sum d [.ref r0] μ9 (KI (fun v10 μ10 => ((v7 = w 61 → ((x2 = v10 → Q (some (.int (w 1))) μ10) ∧ (¬ x2 = v10 → Q (some (.int (w 0))) μ10))) ∧ (¬ v7 = w 61 → ((v7 = w 60 → ((x2 < v10 → Q (some (.int (w 1))) μ10) ∧ (¬ x2 < v10 → Q (some (.int (w 0))) μ10))) ∧ (¬ v7 = w 60 → ((v10 < x2 → Q (some (.int (w 1))) μ10) ∧ (¬ v10 < x2 → Q (some (.int (w 0))) μ10))))))))))))))) ∧ (¬ xI μ r0 11 = w (-1) → Q (some (.int (w 0))) μ))))) : G Γ m_MO_compares (d + 1) (0, 0) Q 0 [.ref r0, .int x1, .int x2] [] μ := by
  refine run_ok (pc' := 1) [(.iload_n 1, 0, 0, 0)] _ _ _ _ (by decide +kernel) ?_
  show G Γ m_MO_compares (d + 1) (0, 0) Q 1 [.ref r0, .int x1, .int x2] [.int x1] μ
  refine g_ifz_eq (pc' := 8) (off := 7) (by decide) (by decide +kernel) (fun hc => ?_) (fun hc => ?_)
  · replace h := h.1 hc
    show G Γ m_MO_compares (d + 1) (0, 0) Q 8 [.ref r0, .int x1, .int x2] [] μ
    refine run_ok (pc' := 9) [(.aload_n 0, 0, 0, 0)] _ _ _ _ (by decide +kernel) ?_
    show G Γ m_MO_compares (d + 1) (0, 0) Q 9 [.ref r0, .int x1, .int x2] [.ref r0] μ
    refine g_invV (M' := m_MO_sum) (b1 := 0) (b2 := 0) (As := []) (a := r0) (st := []) lk_11_174 (by decide +kernel) rfl (dk_MO_sum d) (Nat.le_of_ble_eq_true rfl) (Or.inl ⟨11, o_r0_11, rfl⟩) h ?_
    rintro _ μ1 ⟨v1, rfl, h⟩ hn1
    show G Γ m_MO_compares (d + 1) (0, 0) Q 12 [.ref r0, .int x1, .int x2] [.int v1] μ1
    refine run_ok (pc' := 18) [(.istore_n 3, 0, 0, 0), (.aload_n 0, 0, 0, 0), (.getfield 141, 11, 11, 0), (.iconst (-1), 0, 0, 0)] _ _ _ _ (by decide +kernel) ?_
    show _ ∧ (_)
    refine ⟨((o_r0_11).mono hn1), ?_⟩
    show G Γ m_MO_compares (d + 1) (0, 0) Q 18 [.ref r0, .int x1, .int x2, .int v1] [.int (w (-1)), .int (xI μ1 r0 11)] μ1
    refine g_icmp_eq (pc' := 23) (off := 5) (by decide) (by decide +kernel) (fun hc => ?_) (fun hc => ?_)
    · replace h := h.1 hc
      show G Γ m_MO_compares (d + 1) (0, 0) Q 23 [.ref r0, .int x1, .int x2, .int v1] [] μ1
      refine run_ok (pc' := 24) [(.aload_n 0, 0, 0, 0)] _ _ _ _ (by decide +kernel) ?_
      show G Γ m_MO_compares (d + 1) (0, 0) Q 24 [.ref r0, .int x1, .int x2, .int v1] [.ref r0] μ1
      refine g_invV (M' := m_MO_look) (b1 := 0) (b2 := 0) (As := []) (a := r0) (st := []) lk_11_151 (by decide +kernel) rfl (dk_MO_look d) (Nat.le_of_ble_eq_true rfl) (Or.inl ⟨11, ((o_r0_11).mono hn1), rfl⟩) h ?_
      rintro _ μ2 ⟨v2, rfl, h⟩ hn2
      show G Γ m_MO_compares (d + 1) (0, 0) Q 27 [.ref r0, .int x1, .int x2, .int v1] [.int v2] μ2
      refine run_ok (pc' := 31) [(.istore 4, 0, 0, 0), (.iload 4, 0, 0, 0)] _ _ _ _ (by decide +kernel) ?_
      show G Γ m_MO_compares (d + 1) (0, 0) Q 31 [.ref r0, .int x1, .int x2, .int v1, .int v2] [.int v2] μ2
      refine g_invS (M' := m_MO_isSign) (b1 := 0) (b2 := 0) (As := [.int v2]) (st := []) lk_11_194 (by decide +kernel) rfl (dk_MO_isSign d) (Nat.le_of_ble_eq_true rfl) h ?_
      rintro _ μ3 ⟨v3, rfl, h⟩ hn3
      show G Γ m_MO_compares (d + 1) (0, 0) Q 34 [.ref r0, .int x1, .int x2, .int v1, .int v2] [.int v3] μ3
      refine g_ifz_ne (pc' := 42) (off := 8) (by decide) (by decide +kernel) (fun hc => ?_) (fun hc => ?_)
      · replace h := h.2 hc
        show G Γ m_MO_compares (d + 1) (0, 0) Q 42 [.ref r0, .int x1, .int x2, .int v1, .int v2] [] μ3
        refine run_ok (pc' := 52) [(.aload_n 0, 0, 0, 0), (.dup, 0, 0, 0), (.getfield 132, 11, 10, 0), (.iconst 1, 0, 0, 0), (.iadd, 0, 0, 0), (.putfield 132, 11, 10, 0)] _ _ _ _ (by decide +kernel) ?_
        show _ ∧ (_ ∧ (_))
        refine ⟨((((o_r0_11).mono hn1).mono hn2).mono hn3), ((((o_r0_11).mono hn1).mono hn2).mono hn3), ?_⟩
        show G Γ m_MO_compares (d + 1) (0, 0) Q 52 [.ref r0, .int x1, .int x2, .int v1, .int v2] [] (sI μ3 r0 10 ((xI μ3 r0 10) + (w 1)))
        obtain ⟨μ4, em4⟩ : ∃ m : XM, m = sI μ3 r0 10 ((xI μ3 r0 10) + (w 1)) := ⟨_, rfl⟩
        replace h := h μ4 em4
        have hm4 : xN μ3 ≤ xN μ4 := by rw [em4]; exact Nat.le_refl _
        rw [← em4]
        refine run_ok (pc' := 53) [(.aload_n 0, 0, 0, 0)] _ _ _ _ (by decide +kernel) ?_
        show G Γ m_MO_compares (d + 1) (0, 0) Q 53 [.ref r0, .int x1, .int x2, .int v1, .int v2] [.ref r0] μ4
        refine g_invV (M' := m_MO_sum) (b1 := 0) (b2 := 0) (As := []) (a := r0) (st := []) lk_11_174 (by decide +kernel) rfl (dk_MO_sum d) (Nat.le_of_ble_eq_true rfl) (Or.inl ⟨11, (((((o_r0_11).mono hn1).mono hn2).mono hn3).mono hm4), rfl⟩) h ?_
        rintro _ μ5 ⟨v5, rfl, h⟩ hn5
        show G Γ m_MO_compares (d + 1) (0, 0) Q 56 [.ref r0, .int x1, .int x2, .int v1, .int v2] [.int v5] μ5
        refine run_ok (pc' := 62) [(.istore 5, 0, 0, 0), (.iload 4, 0, 0, 0), (.bipush 61, 0, 0, 0)] _ _ _ _ (by decide +kernel) ?_
        show G Γ m_MO_compares (d + 1) (0, 0) Q 62 [.ref r0, .int x1, .int x2, .int v1, .int v2, .int v5] [.int (w 61), .int v2] μ5
        refine g_icmp_ne (pc' := 79) (off := 17) (by decide) (by decide +kernel) (fun hc => ?_) (fun hc => ?_)
        · replace h := h.2 hc
          show G Γ m_MO_compares (d + 1) (0, 0) Q 79 [.ref r0, .int x1, .int x2, .int v1, .int v2, .int v5] [] μ5
          refine run_ok (pc' := 83) [(.iload 4, 0, 0, 0), (.bipush 60, 0, 0, 0)] _ _ _ _ (by decide +kernel) ?_
          show G Γ m_MO_compares (d + 1) (0, 0) Q 83 [.ref r0, .int x1, .int x2, .int v1, .int v2, .int v5] [.int (w 60), .int v2] μ5
          refine g_icmp_ne (pc' := 100) (off := 17) (by decide) (by decide +kernel) (fun hc => ?_) (fun hc => ?_)
          · replace h := h.2 hc
            show G Γ m_MO_compares (d + 1) (0, 0) Q 100 [.ref r0, .int x1, .int x2, .int v1, .int v2, .int v5] [] μ5
            refine run_ok (pc' := 103) [(.iload_n 3, 0, 0, 0), (.iload 5, 0, 0, 0)] _ _ _ _ (by decide +kernel) ?_
            show G Γ m_MO_compares (d + 1) (0, 0) Q 103 [.ref r0, .int x1, .int x2, .int v1, .int v2, .int v5] [.int v5, .int v1] μ5
            refine g_icmp_le (pc' := 110) (off := 7) (by decide) (by decide +kernel) (fun hc => ?_) (fun hc => ?_)
            · replace h := h.2 hc
              show G Γ m_MO_compares (d + 1) (0, 0) Q 110 [.ref r0, .int x1, .int x2, .int v1, .int v2, .int v5] [] μ5
              refine run_ok (pc' := 111) [(.iconst 0, 0, 0, 0)] _ _ _ _ (by decide +kernel) ?_
              show G Γ m_MO_compares (d + 1) (0, 0) Q 111 [.ref r0, .int x1, .int x2, .int v1, .int v2, .int v5] [.int (w 0)] μ5
              exact g_retz (by decide +kernel) rfl (Or.inl rfl) h
            · replace h := h.1 hc
              show G Γ m_MO_compares (d + 1) (0, 0) Q 106 [.ref r0, .int x1, .int x2, .int v1, .int v2, .int v5] [] μ5
              refine run_ok (pc' := 111) [(.iconst 1, 0, 0, 0), (.goto 4, 0, 0, 0)] _ _ _ _ (by decide +kernel) ?_
              show G Γ m_MO_compares (d + 1) (0, 0) Q 111 [.ref r0, .int x1, .int x2, .int v1, .int v2, .int v5] [.int (w 1)] μ5
              exact g_retz (by decide +kernel) rfl (Or.inr rfl) h
          · replace h := h.1 hc
            show G Γ m_MO_compares (d + 1) (0, 0) Q 86 [.ref r0, .int x1, .int x2, .int v1, .int v2, .int v5] [] μ5
            refine run_ok (pc' := 89) [(.iload_n 3, 0, 0, 0), (.iload 5, 0, 0, 0)] _ _ _ _ (by decide +kernel) ?_
            show G Γ m_MO_compares (d + 1) (0, 0) Q 89 [.ref r0, .int x1, .int x2, .int v1, .int v2, .int v5] [.int v5, .int v1] μ5
            refine g_icmp_ge (pc' := 96) (off := 7) (by decide) (by decide +kernel) (fun hc => ?_) (fun hc => ?_)
            · replace h := h.2 hc
              show G Γ m_MO_compares (d + 1) (0, 0) Q 96 [.ref r0, .int x1, .int x2, .int v1, .int v2, .int v5] [] μ5
              refine run_ok (pc' := 111) [(.iconst 0, 0, 0, 0), (.goto 14, 0, 0, 0)] _ _ _ _ (by decide +kernel) ?_
              show G Γ m_MO_compares (d + 1) (0, 0) Q 111 [.ref r0, .int x1, .int x2, .int v1, .int v2, .int v5] [.int (w 0)] μ5
              exact g_retz (by decide +kernel) rfl (Or.inl rfl) h
            · replace h := h.1 hc
              show G Γ m_MO_compares (d + 1) (0, 0) Q 92 [.ref r0, .int x1, .int x2, .int v1, .int v2, .int v5] [] μ5
              refine run_ok (pc' := 111) [(.iconst 1, 0, 0, 0), (.goto 18, 0, 0, 0)] _ _ _ _ (by decide +kernel) ?_
              show G Γ m_MO_compares (d + 1) (0, 0) Q 111 [.ref r0, .int x1, .int x2, .int v1, .int v2, .int v5] [.int (w 1)] μ5
              exact g_retz (by decide +kernel) rfl (Or.inr rfl) h
        · replace h := h.1 hc
          show G Γ m_MO_compares (d + 1) (0, 0) Q 65 [.ref r0, .int x1, .int x2, .int v1, .int v2, .int v5] [] μ5
          refine run_ok (pc' := 68) [(.iload_n 3, 0, 0, 0), (.iload 5, 0, 0, 0)] _ _ _ _ (by decide +kernel) ?_
          show G Γ m_MO_compares (d + 1) (0, 0) Q 68 [.ref r0, .int x1, .int x2, .int v1, .int v2, .int v5] [.int v5, .int v1] μ5
          refine g_icmp_ne (pc' := 75) (off := 7) (by decide) (by decide +kernel) (fun hc => ?_) (fun hc => ?_)
          · replace h := h.2 hc
            show G Γ m_MO_compares (d + 1) (0, 0) Q 75 [.ref r0, .int x1, .int x2, .int v1, .int v2, .int v5] [] μ5
            refine run_ok (pc' := 111) [(.iconst 0, 0, 0, 0), (.goto 35, 0, 0, 0)] _ _ _ _ (by decide +kernel) ?_
            show G Γ m_MO_compares (d + 1) (0, 0) Q 111 [.ref r0, .int x1, .int x2, .int v1, .int v2, .int v5] [.int (w 0)] μ5
            exact g_retz (by decide +kernel) rfl (Or.inl rfl) h
          · replace h := h.1 hc
            show G Γ m_MO_compares (d + 1) (0, 0) Q 71 [.ref r0, .int x1, .int x2, .int v1, .int v2, .int v5] [] μ5
            refine run_ok (pc' := 111) [(.iconst 1, 0, 0, 0), (.goto 39, 0, 0, 0)] _ _ _ _ (by decide +kernel) ?_
            show G Γ m_MO_compares (d + 1) (0, 0) Q 111 [.ref r0, .int x1, .int x2, .int v1, .int v2, .int v5] [.int (w 1)] μ5
            exact g_retz (by decide +kernel) rfl (Or.inr rfl) h
      · replace h := h.1 hc
        show G Γ m_MO_compares (d + 1) (0, 0) Q 37 [.ref r0, .int x1, .int x2, .int v1, .int v2] [] μ3
        refine run_ok (pc' := 38) [(.aload_n 0, 0, 0, 0)] _ _ _ _ (by decide +kernel) ?_
        show G Γ m_MO_compares (d + 1) (0, 0) Q 38 [.ref r0, .int x1, .int x2, .int v1, .int v2] [.ref r0] μ3
        refine g_invV (M' := m_MO_fails) (b1 := 0) (b2 := 0) (As := []) (a := r0) (st := []) lk_11_147 (by decide +kernel) rfl (dk_MO_fails d) (Nat.le_of_ble_eq_true rfl) (Or.inl ⟨11, ((((o_r0_11).mono hn1).mono hn2).mono hn3), rfl⟩) h ?_
        rintro _ μ6 ⟨v6, rfl, h⟩ hn6
        show G Γ m_MO_compares (d + 1) (0, 0) Q 41 [.ref r0, .int x1, .int x2, .int v1, .int v2] [.int v6] μ6
        exact g_retz (by decide +kernel) rfl h.1 h.2
    · replace h := h.2 hc
      show G Γ m_MO_compares (d + 1) (0, 0) Q 21 [.ref r0, .int x1, .int x2, .int v1] [] μ1
      refine run_ok (pc' := 22) [(.iconst 0, 0, 0, 0)] _ _ _ _ (by decide +kernel) ?_
      show G Γ m_MO_compares (d + 1) (0, 0) Q 22 [.ref r0, .int x1, .int x2, .int v1] [.int (w 0)] μ1
      exact g_retz (by decide +kernel) rfl (Or.inl rfl) h
  · replace h := h.2 hc
    show G Γ m_MO_compares (d + 1) (0, 0) Q 4 [.ref r0, .int x1, .int x2] [] μ
    refine run_ok (pc' := 18) [(.iload_n 2, 0, 0, 0), (.goto 7, 0, 0, 0), (.istore_n 3, 0, 0, 0), (.aload_n 0, 0, 0, 0), (.getfield 141, 11, 11, 0), (.iconst (-1), 0, 0, 0)] _ _ _ _ (by decide +kernel) ?_
    show _ ∧ (_)
    refine ⟨o_r0_11, ?_⟩
    show G Γ m_MO_compares (d + 1) (0, 0) Q 18 [.ref r0, .int x1, .int x2, .int x2] [.int (w (-1)), .int (xI μ r0 11)] μ
    refine g_icmp_eq (pc' := 23) (off := 5) (by decide) (by decide +kernel) (fun hc => ?_) (fun hc => ?_)
    · replace h := h.1 hc
      show G Γ m_MO_compares (d + 1) (0, 0) Q 23 [.ref r0, .int x1, .int x2, .int x2] [] μ
      refine run_ok (pc' := 24) [(.aload_n 0, 0, 0, 0)] _ _ _ _ (by decide +kernel) ?_
      show G Γ m_MO_compares (d + 1) (0, 0) Q 24 [.ref r0, .int x1, .int x2, .int x2] [.ref r0] μ
      refine g_invV (M' := m_MO_look) (b1 := 0) (b2 := 0) (As := []) (a := r0) (st := []) lk_11_151 (by decide +kernel) rfl (dk_MO_look d) (Nat.le_of_ble_eq_true rfl) (Or.inl ⟨11, o_r0_11, rfl⟩) h ?_
      rintro _ μ7 ⟨v7, rfl, h⟩ hn7
      show G Γ m_MO_compares (d + 1) (0, 0) Q 27 [.ref r0, .int x1, .int x2, .int x2] [.int v7] μ7
      refine run_ok (pc' := 31) [(.istore 4, 0, 0, 0), (.iload 4, 0, 0, 0)] _ _ _ _ (by decide +kernel) ?_
      show G Γ m_MO_compares (d + 1) (0, 0) Q 31 [.ref r0, .int x1, .int x2, .int x2, .int v7] [.int v7] μ7
      refine g_invS (M' := m_MO_isSign) (b1 := 0) (b2 := 0) (As := [.int v7]) (st := []) lk_11_194 (by decide +kernel) rfl (dk_MO_isSign d) (Nat.le_of_ble_eq_true rfl) h ?_
      rintro _ μ8 ⟨v8, rfl, h⟩ hn8
      show G Γ m_MO_compares (d + 1) (0, 0) Q 34 [.ref r0, .int x1, .int x2, .int x2, .int v7] [.int v8] μ8
      refine g_ifz_ne (pc' := 42) (off := 8) (by decide) (by decide +kernel) (fun hc => ?_) (fun hc => ?_)
      · replace h := h.2 hc
        show G Γ m_MO_compares (d + 1) (0, 0) Q 42 [.ref r0, .int x1, .int x2, .int x2, .int v7] [] μ8
        refine run_ok (pc' := 52) [(.aload_n 0, 0, 0, 0), (.dup, 0, 0, 0), (.getfield 132, 11, 10, 0), (.iconst 1, 0, 0, 0), (.iadd, 0, 0, 0), (.putfield 132, 11, 10, 0)] _ _ _ _ (by decide +kernel) ?_
        show _ ∧ (_ ∧ (_))
        refine ⟨(((o_r0_11).mono hn7).mono hn8), (((o_r0_11).mono hn7).mono hn8), ?_⟩
        show G Γ m_MO_compares (d + 1) (0, 0) Q 52 [.ref r0, .int x1, .int x2, .int x2, .int v7] [] (sI μ8 r0 10 ((xI μ8 r0 10) + (w 1)))
        obtain ⟨μ9, em9⟩ : ∃ m : XM, m = sI μ8 r0 10 ((xI μ8 r0 10) + (w 1)) := ⟨_, rfl⟩
        replace h := h μ9 em9
        have hm9 : xN μ8 ≤ xN μ9 := by rw [em9]; exact Nat.le_refl _
        rw [← em9]
        refine run_ok (pc' := 53) [(.aload_n 0, 0, 0, 0)] _ _ _ _ (by decide +kernel) ?_
        show G Γ m_MO_compares (d + 1) (0, 0) Q 53 [.ref r0, .int x1, .int x2, .int x2, .int v7] [.ref r0] μ9
        refine g_invV (M' := m_MO_sum) (b1 := 0) (b2 := 0) (As := []) (a := r0) (st := []) lk_11_174 (by decide +kernel) rfl (dk_MO_sum d) (Nat.le_of_ble_eq_true rfl) (Or.inl ⟨11, ((((o_r0_11).mono hn7).mono hn8).mono hm9), rfl⟩) h ?_
        rintro _ μ10 ⟨v10, rfl, h⟩ hn10
        show G Γ m_MO_compares (d + 1) (0, 0) Q 56 [.ref r0, .int x1, .int x2, .int x2, .int v7] [.int v10] μ10
        refine run_ok (pc' := 62) [(.istore 5, 0, 0, 0), (.iload 4, 0, 0, 0), (.bipush 61, 0, 0, 0)] _ _ _ _ (by decide +kernel) ?_
        show G Γ m_MO_compares (d + 1) (0, 0) Q 62 [.ref r0, .int x1, .int x2, .int x2, .int v7, .int v10] [.int (w 61), .int v7] μ10
        refine g_icmp_ne (pc' := 79) (off := 17) (by decide) (by decide +kernel) (fun hc => ?_) (fun hc => ?_)
        · replace h := h.2 hc
          show G Γ m_MO_compares (d + 1) (0, 0) Q 79 [.ref r0, .int x1, .int x2, .int x2, .int v7, .int v10] [] μ10
          refine run_ok (pc' := 83) [(.iload 4, 0, 0, 0), (.bipush 60, 0, 0, 0)] _ _ _ _ (by decide +kernel) ?_
          show G Γ m_MO_compares (d + 1) (0, 0) Q 83 [.ref r0, .int x1, .int x2, .int x2, .int v7, .int v10] [.int (w 60), .int v7] μ10
          refine g_icmp_ne (pc' := 100) (off := 17) (by decide) (by decide +kernel) (fun hc => ?_) (fun hc => ?_)
          · replace h := h.2 hc
            show G Γ m_MO_compares (d + 1) (0, 0) Q 100 [.ref r0, .int x1, .int x2, .int x2, .int v7, .int v10] [] μ10
            refine run_ok (pc' := 103) [(.iload_n 3, 0, 0, 0), (.iload 5, 0, 0, 0)] _ _ _ _ (by decide +kernel) ?_
            show G Γ m_MO_compares (d + 1) (0, 0) Q 103 [.ref r0, .int x1, .int x2, .int x2, .int v7, .int v10] [.int v10, .int x2] μ10
            refine g_icmp_le (pc' := 110) (off := 7) (by decide) (by decide +kernel) (fun hc => ?_) (fun hc => ?_)
            · replace h := h.2 hc
              show G Γ m_MO_compares (d + 1) (0, 0) Q 110 [.ref r0, .int x1, .int x2, .int x2, .int v7, .int v10] [] μ10
              refine run_ok (pc' := 111) [(.iconst 0, 0, 0, 0)] _ _ _ _ (by decide +kernel) ?_
              show G Γ m_MO_compares (d + 1) (0, 0) Q 111 [.ref r0, .int x1, .int x2, .int x2, .int v7, .int v10] [.int (w 0)] μ10
              exact g_retz (by decide +kernel) rfl (Or.inl rfl) h
            · replace h := h.1 hc
              show G Γ m_MO_compares (d + 1) (0, 0) Q 106 [.ref r0, .int x1, .int x2, .int x2, .int v7, .int v10] [] μ10
              refine run_ok (pc' := 111) [(.iconst 1, 0, 0, 0), (.goto 4, 0, 0, 0)] _ _ _ _ (by decide +kernel) ?_
              show G Γ m_MO_compares (d + 1) (0, 0) Q 111 [.ref r0, .int x1, .int x2, .int x2, .int v7, .int v10] [.int (w 1)] μ10
              exact g_retz (by decide +kernel) rfl (Or.inr rfl) h
          · replace h := h.1 hc
            show G Γ m_MO_compares (d + 1) (0, 0) Q 86 [.ref r0, .int x1, .int x2, .int x2, .int v7, .int v10] [] μ10
            refine run_ok (pc' := 89) [(.iload_n 3, 0, 0, 0), (.iload 5, 0, 0, 0)] _ _ _ _ (by decide +kernel) ?_
            show G Γ m_MO_compares (d + 1) (0, 0) Q 89 [.ref r0, .int x1, .int x2, .int x2, .int v7, .int v10] [.int v10, .int x2] μ10
            refine g_icmp_ge (pc' := 96) (off := 7) (by decide) (by decide +kernel) (fun hc => ?_) (fun hc => ?_)
            · replace h := h.2 hc
              show G Γ m_MO_compares (d + 1) (0, 0) Q 96 [.ref r0, .int x1, .int x2, .int x2, .int v7, .int v10] [] μ10
              refine run_ok (pc' := 111) [(.iconst 0, 0, 0, 0), (.goto 14, 0, 0, 0)] _ _ _ _ (by decide +kernel) ?_
              show G Γ m_MO_compares (d + 1) (0, 0) Q 111 [.ref r0, .int x1, .int x2, .int x2, .int v7, .int v10] [.int (w 0)] μ10
              exact g_retz (by decide +kernel) rfl (Or.inl rfl) h
            · replace h := h.1 hc
              show G Γ m_MO_compares (d + 1) (0, 0) Q 92 [.ref r0, .int x1, .int x2, .int x2, .int v7, .int v10] [] μ10
              refine run_ok (pc' := 111) [(.iconst 1, 0, 0, 0), (.goto 18, 0, 0, 0)] _ _ _ _ (by decide +kernel) ?_
              show G Γ m_MO_compares (d + 1) (0, 0) Q 111 [.ref r0, .int x1, .int x2, .int x2, .int v7, .int v10] [.int (w 1)] μ10
              exact g_retz (by decide +kernel) rfl (Or.inr rfl) h
        · replace h := h.1 hc
          show G Γ m_MO_compares (d + 1) (0, 0) Q 65 [.ref r0, .int x1, .int x2, .int x2, .int v7, .int v10] [] μ10
          refine run_ok (pc' := 68) [(.iload_n 3, 0, 0, 0), (.iload 5, 0, 0, 0)] _ _ _ _ (by decide +kernel) ?_
          show G Γ m_MO_compares (d + 1) (0, 0) Q 68 [.ref r0, .int x1, .int x2, .int x2, .int v7, .int v10] [.int v10, .int x2] μ10
          refine g_icmp_ne (pc' := 75) (off := 7) (by decide) (by decide +kernel) (fun hc => ?_) (fun hc => ?_)
          · replace h := h.2 hc
            show G Γ m_MO_compares (d + 1) (0, 0) Q 75 [.ref r0, .int x1, .int x2, .int x2, .int v7, .int v10] [] μ10
            refine run_ok (pc' := 111) [(.iconst 0, 0, 0, 0), (.goto 35, 0, 0, 0)] _ _ _ _ (by decide +kernel) ?_
            show G Γ m_MO_compares (d + 1) (0, 0) Q 111 [.ref r0, .int x1, .int x2, .int x2, .int v7, .int v10] [.int (w 0)] μ10
            exact g_retz (by decide +kernel) rfl (Or.inl rfl) h
          · replace h := h.1 hc
            show G Γ m_MO_compares (d + 1) (0, 0) Q 71 [.ref r0, .int x1, .int x2, .int x2, .int v7, .int v10] [] μ10
            refine run_ok (pc' := 111) [(.iconst 1, 0, 0, 0), (.goto 39, 0, 0, 0)] _ _ _ _ (by decide +kernel) ?_
            show G Γ m_MO_compares (d + 1) (0, 0) Q 111 [.ref r0, .int x1, .int x2, .int x2, .int v7, .int v10] [.int (w 1)] μ10
            exact g_retz (by decide +kernel) rfl (Or.inr rfl) h
      · replace h := h.1 hc
        show G Γ m_MO_compares (d + 1) (0, 0) Q 37 [.ref r0, .int x1, .int x2, .int x2, .int v7] [] μ8
        refine run_ok (pc' := 38) [(.aload_n 0, 0, 0, 0)] _ _ _ _ (by decide +kernel) ?_
        show G Γ m_MO_compares (d + 1) (0, 0) Q 38 [.ref r0, .int x1, .int x2, .int x2, .int v7] [.ref r0] μ8
        refine g_invV (M' := m_MO_fails) (b1 := 0) (b2 := 0) (As := []) (a := r0) (st := []) lk_11_147 (by decide +kernel) rfl (dk_MO_fails d) (Nat.le_of_ble_eq_true rfl) (Or.inl ⟨11, (((o_r0_11).mono hn7).mono hn8), rfl⟩) h ?_
        rintro _ μ11 ⟨v11, rfl, h⟩ hn11
        show G Γ m_MO_compares (d + 1) (0, 0) Q 41 [.ref r0, .int x1, .int x2, .int x2, .int v7] [.int v11] μ11
        exact g_retz (by decide +kernel) rfl h.1 h.2
    · replace h := h.2 hc
      show G Γ m_MO_compares (d + 1) (0, 0) Q 21 [.ref r0, .int x1, .int x2, .int x2] [] μ
      refine run_ok (pc' := 22) [(.iconst 0, 0, 0, 0)] _ _ _ _ (by decide +kernel) ?_
      show G Γ m_MO_compares (d + 1) (0, 0) Q 22 [.ref r0, .int x1, .int x2, .int x2] [.int (w 0)] μ
      exact g_retz (by decide +kernel) rfl (Or.inl rfl) h
/-! FrostBoxModel unit()Z -/
set_option maxRecDepth 100000 in
theorem lk_11_204 : LkV 11 204 m_MO_compares 2 := ⟨lc_MO_compares, lwG_in (List.mem_of_getElem? (i := 1533) rfl) rfl, lwG_in (List.mem_of_getElem? (i := 1535) rfl) rfl, lwG_in (List.mem_of_getElem? (i := 66) rfl) rfl⟩
set_option maxRecDepth 100000 in
theorem lk_11_200 : LkV 11 200 m_MO_condition 2 := ⟨lc_MO_condition, lwG_in (List.mem_of_getElem? (i := 1525) rfl) rfl, lwG_in (List.mem_of_getElem? (i := 1527) rfl) rfl, lwG_in (List.mem_of_getElem? (i := 64) rfl) rfl⟩
set_option maxRecDepth 100000 in
theorem lk_11_197 : LkV 11 197 m_MO_unit 0 := ⟨lc_MO_unit, lwG_in (List.mem_of_getElem? (i := 1563) rfl) rfl, lwG_in (List.mem_of_getElem? (i := 1565) rfl) rfl, lwG_in (List.mem_of_getElem? (i := 71) rfl) rfl⟩
set_option maxRecDepth 100000 in
theorem B_MO_unit_0 {Γ : XG} {d : Nat} {Q : Option Value → XM → Prop} {r0 : Nat} {μ : XM} (o_r0_11 : ob μ r0 11) (h : Call Γ m_MO_look d [.ref r0] μ (KI (fun v1 μ1 => ((v1 = w 33 → Call Γ m_MO_goesIn d [.ref r0] μ1 (KI (fun v7 μ7 => ((v7 = w 0 → Q (some (.int (w 0))) μ7) ∧ (¬ v7 = w 0 → Call Γ m_MO_unit d [.ref r0] μ7 (KI (fun v8 μ8 => ∀ μ9, μ9 = sI μ8 r0 12 ((xI μ8 r0 12) - (w 1)) → ((v8 = w 0 → Q (some (.int (w 1))) μ9) ∧ (¬ v8 = w 0 → Q (some (.int (w 0))) μ9))))))))) ∧ (¬ v1 = w 33 → ((v1 = w 40 → Call Γ m_MO_goesIn d [.ref r0] μ1 (KI (fun v3 μ3 => ((v3 = w 0 → Q (some (.int (w 0))) μ3) ∧ (¬ v3 = w 0 → Call Γ m_MO_condition d [.ref r0, .int (w 0), .int (w 0)] μ3 (KI (fun v4 μ4 => Call Γ m_MO_takes d [.ref r0, .int (w 41)] μ4 (KI (fun v5 μ5 => ((v5 = w 0 → Q (some (.int (w 0))) μ5) ∧ (¬ v5 = w 0 → ∀ μ6, μ6 = sI μ5 r0 12 ((xI μ5 r0 12) - (w 1)) → ((v4 = w 0 ∨ v4 = w 1) ∧ Q (some (.int v4)) μ6)))))))))))) ∧ (¬ v1 = w 40 → Call Γ m_MO_compares d [.ref r0, .int (w 0), .int (w 0)] μ1 (KI (fun v2 μ2 => ((v2 = w 0 ∨ v2 = w 1) ∧ Q (some (.int v2)) μ2)))))))))) : G Γ m_MO_unit (d + 1) (0, 0) Q 0 [.ref r0] [] μ := by
  refine run_ok (pc' := 1) [(.aload_n 0, 0, 0, 0)] _ _ _ _ (by decide +kernel) ?_
  show G Γ m_MO_unit (d + 1) (0, 0) Q 1 [.ref r0] [.ref r0] μ
  refine g_invV (M' := m_MO_look) (b1 := 0) (b2 := 0) (As := []) (a := r0) (st := []) lk_11_151 (by decide +kernel) rfl (dk_MO_look d) (Nat.le_of_ble_eq_true rfl) (Or.inl ⟨11, o_r0_11, rfl⟩) h ?_
  rintro _ μ1 ⟨v1, rfl, h⟩ hn1
  show G Γ m_MO_unit (d + 1) (0, 0) Q 4 [.ref r0] [.int v1] μ1
  refine run_ok (pc' := 8) [(.istore_n 1, 0, 0, 0), (.iload_n 1, 0, 0, 0), (.bipush 33, 0, 0, 0)] _ _ _ _ (by decide +kernel) ?_
  show G Γ m_MO_unit (d + 1) (0, 0) Q 8 [.ref r0, .int v1] [.int (w 33), .int v1] μ1
  refine g_icmp_ne (pc' := 45) (off := 37) (by decide) (by decide +kernel) (fun hc => ?_) (fun hc => ?_)
  · replace h := h.2 hc
    show G Γ m_MO_unit (d + 1) (0, 0) Q 45 [.ref r0, .int v1] [] μ1
    refine run_ok (pc' := 48) [(.iload_n 1, 0, 0, 0), (.bipush 40, 0, 0, 0)] _ _ _ _ (by decide +kernel) ?_
    show G Γ m_MO_unit (d + 1) (0, 0) Q 48 [.ref r0, .int v1] [.int (w 40), .int v1] μ1
    refine g_icmp_ne (pc' := 90) (off := 42) (by decide) (by decide +kernel) (fun hc => ?_) (fun hc => ?_)
    · replace h := h.2 hc
      show G Γ m_MO_unit (d + 1) (0, 0) Q 90 [.ref r0, .int v1] [] μ1
      refine run_ok (pc' := 93) [(.aload_n 0, 0, 0, 0), (.iconst 0, 0, 0, 0), (.iconst 0, 0, 0, 0)] _ _ _ _ (by decide +kernel) ?_
      show G Γ m_MO_unit (d + 1) (0, 0) Q 93 [.ref r0, .int v1] [.int (w 0), .int (w 0), .ref r0] μ1
      refine g_invV (M' := m_MO_compares) (b1 := 0) (b2 := 0) (As := [.int (w 0), .int (w 0)]) (a := r0) (st := []) lk_11_204 (by decide +kernel) rfl (dk_MO_compares d) (Nat.le_of_ble_eq_true rfl) (Or.inl ⟨11, ((o_r0_11).mono hn1), rfl⟩) h ?_
      rintro _ μ2 ⟨v2, rfl, h⟩ hn2
      show G Γ m_MO_unit (d + 1) (0, 0) Q 96 [.ref r0, .int v1] [.int v2] μ2
      exact g_retz (by decide +kernel) rfl h.1 h.2
    · replace h := h.1 hc
      show G Γ m_MO_unit (d + 1) (0, 0) Q 51 [.ref r0, .int v1] [] μ1
      refine run_ok (pc' := 52) [(.aload_n 0, 0, 0, 0)] _ _ _ _ (by decide +kernel) ?_
      show G Γ m_MO_unit (d + 1) (0, 0) Q 52 [.ref r0, .int v1] [.ref r0] μ1
      refine g_invV (M' := m_MO_goesIn) (b1 := 0) (b2 := 0) (As := []) (a := r0) (st := []) lk_11_171 (by decide +kernel) rfl (dk_MO_goesIn d) (Nat.le_of_ble_eq_true rfl) (Or.inl ⟨11, ((o_r0_11).mono hn1), rfl⟩) h ?_
      rintro _ μ3 ⟨v3, rfl, h⟩ hn3
      show G Γ m_MO_unit (d + 1) (0, 0) Q 55 [.ref r0, .int v1] [.int v3] μ3
      refine g_ifz_ne (pc' := 60) (off := 5) (by decide) (by decide +kernel) (fun hc => ?_) (fun hc => ?_)
      · replace h := h.2 hc
        show G Γ m_MO_unit (d + 1) (0, 0) Q 60 [.ref r0, .int v1] [] μ3
        refine run_ok (pc' := 63) [(.aload_n 0, 0, 0, 0), (.iconst 0, 0, 0, 0), (.iconst 0, 0, 0, 0)] _ _ _ _ (by decide +kernel) ?_
        show G Γ m_MO_unit (d + 1) (0, 0) Q 63 [.ref r0, .int v1] [.int (w 0), .int (w 0), .ref r0] μ3
        refine g_invV (M' := m_MO_condition) (b1 := 0) (b2 := 0) (As := [.int (w 0), .int (w 0)]) (a := r0) (st := []) lk_11_200 (by decide +kernel) rfl (dk_MO_condition d) (Nat.le_of_ble_eq_true rfl) (Or.inl ⟨11, (((o_r0_11).mono hn1).mono hn3), rfl⟩) h ?_
        rintro _ μ4 ⟨v4, rfl, h⟩ hn4
        show G Γ m_MO_unit (d + 1) (0, 0) Q 66 [.ref r0, .int v1] [.int v4] μ4
        refine run_ok (pc' := 70) [(.istore_n 2, 0, 0, 0), (.aload_n 0, 0, 0, 0), (.bipush 41, 0, 0, 0)] _ _ _ _ (by decide +kernel) ?_
        show G Γ m_MO_unit (d + 1) (0, 0) Q 70 [.ref r0, .int v1, .int v4] [.int (w 41), .ref r0] μ4
        refine g_invV (M' := m_MO_takes) (b1 := 0) (b2 := 0) (As := [.int (w 41)]) (a := r0) (st := []) lk_11_177 (by decide +kernel) rfl (dk_MO_takes d) (Nat.le_of_ble_eq_true rfl) (Or.inl ⟨11, ((((o_r0_11).mono hn1).mono hn3).mono hn4), rfl⟩) h ?_
        rintro _ μ5 ⟨v5, rfl, h⟩ hn5
        show G Γ m_MO_unit (d + 1) (0, 0) Q 73 [.ref r0, .int v1, .int v4] [.int v5] μ5
        refine g_ifz_ne (pc' := 78) (off := 5) (by decide) (by decide +kernel) (fun hc => ?_) (fun hc => ?_)
        · replace h := h.2 hc
          show G Γ m_MO_unit (d + 1) (0, 0) Q 78 [.ref r0, .int v1, .int v4] [] μ5
          refine run_ok (pc' := 88) [(.aload_n 0, 0, 0, 0), (.dup, 0, 0, 0), (.getfield 144, 11, 12, 0), (.iconst 1, 0, 0, 0), (.isub, 0, 0, 0), (.putfield 144, 11, 12, 0)] _ _ _ _ (by decide +kernel) ?_
          show _ ∧ (_ ∧ (_))
          refine ⟨(((((o_r0_11).mono hn1).mono hn3).mono hn4).mono hn5), (((((o_r0_11).mono hn1).mono hn3).mono hn4).mono hn5), ?_⟩
          show G Γ m_MO_unit (d + 1) (0, 0) Q 88 [.ref r0, .int v1, .int v4] [] (sI μ5 r0 12 ((xI μ5 r0 12) - (w 1)))
          obtain ⟨μ6, em6⟩ : ∃ m : XM, m = sI μ5 r0 12 ((xI μ5 r0 12) - (w 1)) := ⟨_, rfl⟩
          replace h := h μ6 em6
          have hm6 : xN μ5 ≤ xN μ6 := by rw [em6]; exact Nat.le_refl _
          rw [← em6]
          refine run_ok (pc' := 89) [(.iload_n 2, 0, 0, 0)] _ _ _ _ (by decide +kernel) ?_
          show G Γ m_MO_unit (d + 1) (0, 0) Q 89 [.ref r0, .int v1, .int v4] [.int v4] μ6
          exact g_retz (by decide +kernel) rfl h.1 h.2
        · replace h := h.1 hc
          show G Γ m_MO_unit (d + 1) (0, 0) Q 76 [.ref r0, .int v1, .int v4] [] μ5
          refine run_ok (pc' := 77) [(.iconst 0, 0, 0, 0)] _ _ _ _ (by decide +kernel) ?_
          show G Γ m_MO_unit (d + 1) (0, 0) Q 77 [.ref r0, .int v1, .int v4] [.int (w 0)] μ5
          exact g_retz (by decide +kernel) rfl (Or.inl rfl) h
      · replace h := h.1 hc
        show G Γ m_MO_unit (d + 1) (0, 0) Q 58 [.ref r0, .int v1] [] μ3
        refine run_ok (pc' := 59) [(.iconst 0, 0, 0, 0)] _ _ _ _ (by decide +kernel) ?_
        show G Γ m_MO_unit (d + 1) (0, 0) Q 59 [.ref r0, .int v1] [.int (w 0)] μ3
        exact g_retz (by decide +kernel) rfl (Or.inl rfl) h
  · replace h := h.1 hc
    show G Γ m_MO_unit (d + 1) (0, 0) Q 11 [.ref r0, .int v1] [] μ1
    refine run_ok (pc' := 12) [(.aload_n 0, 0, 0, 0)] _ _ _ _ (by decide +kernel) ?_
    show G Γ m_MO_unit (d + 1) (0, 0) Q 12 [.ref r0, .int v1] [.ref r0] μ1
    refine g_invV (M' := m_MO_goesIn) (b1 := 0) (b2 := 0) (As := []) (a := r0) (st := []) lk_11_171 (by decide +kernel) rfl (dk_MO_goesIn d) (Nat.le_of_ble_eq_true rfl) (Or.inl ⟨11, ((o_r0_11).mono hn1), rfl⟩) h ?_
    rintro _ μ7 ⟨v7, rfl, h⟩ hn7
    show G Γ m_MO_unit (d + 1) (0, 0) Q 15 [.ref r0, .int v1] [.int v7] μ7
    refine g_ifz_ne (pc' := 20) (off := 5) (by decide) (by decide +kernel) (fun hc => ?_) (fun hc => ?_)
    · replace h := h.2 hc
      show G Γ m_MO_unit (d + 1) (0, 0) Q 20 [.ref r0, .int v1] [] μ7
      refine run_ok (pc' := 21) [(.aload_n 0, 0, 0, 0)] _ _ _ _ (by decide +kernel) ?_
      show G Γ m_MO_unit (d + 1) (0, 0) Q 21 [.ref r0, .int v1] [.ref r0] μ7
      refine g_invV (M' := m_MO_unit) (b1 := 0) (b2 := 0) (As := []) (a := r0) (st := []) lk_11_197 (by decide +kernel) rfl (dk_MO_unit d) (Nat.le_of_ble_eq_true rfl) (Or.inl ⟨11, (((o_r0_11).mono hn1).mono hn7), rfl⟩) h ?_
      rintro _ μ8 ⟨v8, rfl, h⟩ hn8
      show G Γ m_MO_unit (d + 1) (0, 0) Q 24 [.ref r0, .int v1] [.int v8] μ8
      refine run_ok (pc' := 35) [(.istore_n 2, 0, 0, 0), (.aload_n 0, 0, 0, 0), (.dup, 0, 0, 0), (.getfield 144, 11, 12, 0), (.iconst 1, 0, 0, 0), (.isub, 0, 0, 0), (.putfield 144, 11, 12, 0)] _ _ _ _ (by decide +kernel) ?_
      show _ ∧ (_ ∧ (_))
      refine ⟨((((o_r0_11).mono hn1).mono hn7).mono hn8), ((((o_r0_11).mono hn1).mono hn7).mono hn8), ?_⟩
      show G Γ m_MO_unit (d + 1) (0, 0) Q 35 [.ref r0, .int v1, .int v8] [] (sI μ8 r0 12 ((xI μ8 r0 12) - (w 1)))
      obtain ⟨μ9, em9⟩ : ∃ m : XM, m = sI μ8 r0 12 ((xI μ8 r0 12) - (w 1)) := ⟨_, rfl⟩
      replace h := h μ9 em9
      have hm9 : xN μ8 ≤ xN μ9 := by rw [em9]; exact Nat.le_refl _
      rw [← em9]
      refine run_ok (pc' := 36) [(.iload_n 2, 0, 0, 0)] _ _ _ _ (by decide +kernel) ?_
      show G Γ m_MO_unit (d + 1) (0, 0) Q 36 [.ref r0, .int v1, .int v8] [.int v8] μ9
      refine g_ifz_ne (pc' := 43) (off := 7) (by decide) (by decide +kernel) (fun hc => ?_) (fun hc => ?_)
      · replace h := h.2 hc
        show G Γ m_MO_unit (d + 1) (0, 0) Q 43 [.ref r0, .int v1, .int v8] [] μ9
        refine run_ok (pc' := 44) [(.iconst 0, 0, 0, 0)] _ _ _ _ (by decide +kernel) ?_
        show G Γ m_MO_unit (d + 1) (0, 0) Q 44 [.ref r0, .int v1, .int v8] [.int (w 0)] μ9
        exact g_retz (by decide +kernel) rfl (Or.inl rfl) h
      · replace h := h.1 hc
        show G Γ m_MO_unit (d + 1) (0, 0) Q 39 [.ref r0, .int v1, .int v8] [] μ9
        refine run_ok (pc' := 44) [(.iconst 1, 0, 0, 0), (.goto 4, 0, 0, 0)] _ _ _ _ (by decide +kernel) ?_
        show G Γ m_MO_unit (d + 1) (0, 0) Q 44 [.ref r0, .int v1, .int v8] [.int (w 1)] μ9
        exact g_retz (by decide +kernel) rfl (Or.inr rfl) h
    · replace h := h.1 hc
      show G Γ m_MO_unit (d + 1) (0, 0) Q 18 [.ref r0, .int v1] [] μ7
      refine run_ok (pc' := 19) [(.iconst 0, 0, 0, 0)] _ _ _ _ (by decide +kernel) ?_
      show G Γ m_MO_unit (d + 1) (0, 0) Q 19 [.ref r0, .int v1] [.int (w 0)] μ7
      exact g_retz (by decide +kernel) rfl (Or.inl rfl) h
/-! FrostBoxModel part(ZI)Z -/
set_option maxRecDepth 100000 in
theorem B_MO_part_0 {Γ : XG} {d : Nat} {Q : Option Value → XM → Prop} {r0 : Nat} {x1 x2 : Int32} {μ : XM} (o_r0_11 : ob μ r0 11) (h : ((x1 = w 0 → Call Γ m_MO_unit d [.ref r0] μ (KI (fun v1 μ1 => G Γ m_MO_part (d + 1) (0, 0) Q 18 [.ref r0, jk, jk, .int v1] [] μ1))) ∧ (¬ x1 = w 0 → Call Γ m_MO_compares d [.ref r0, .int (w 1), .int x2] μ (KI (fun v2 μ2 => G Γ m_MO_part (d + 1) (0, 0) Q 18 [.ref r0, jk, jk, .int v2] [] μ2))))) : G Γ m_MO_part (d + 1) (0, 0) Q 0 [.ref r0, .int x1, .int x2] [] μ := by
  refine run_ok (pc' := 1) [(.iload_n 1, 0, 0, 0)] _ _ _ _ (by decide +kernel) ?_
  show G Γ m_MO_part (d + 1) (0, 0) Q 1 [.ref r0, .int x1, .int x2] [.int x1] μ
  refine g_ifz_eq (pc' := 13) (off := 12) (by decide) (by decide +kernel) (fun hc => ?_) (fun hc => ?_)
  · replace h := h.1 hc
    show G Γ m_MO_part (d + 1) (0, 0) Q 13 [.ref r0, .int x1, .int x2] [] μ
    refine run_ok (pc' := 14) [(.aload_n 0, 0, 0, 0)] _ _ _ _ (by decide +kernel) ?_
    show G Γ m_MO_part (d + 1) (0, 0) Q 14 [.ref r0, .int x1, .int x2] [.ref r0] μ
    refine g_invV (M' := m_MO_unit) (b1 := 0) (b2 := 0) (As := []) (a := r0) (st := []) lk_11_197 (by decide +kernel) rfl (dk_MO_unit d) (Nat.le_of_ble_eq_true rfl) (Or.inl ⟨11, o_r0_11, rfl⟩) h ?_
    rintro _ μ1 ⟨v1, rfl, h⟩ hn1
    show G Γ m_MO_part (d + 1) (0, 0) Q 17 [.ref r0, .int x1, .int x2] [.int v1] μ1
    refine run_ok (pc' := 18) [(.istore_n 3, 0, 0, 0)] _ _ _ _ (by decide +kernel) ?_
    show G Γ m_MO_part (d + 1) (0, 0) Q 18 [.ref r0, .int x1, .int x2, .int v1] [] μ1
    exact g_wk (ls' := [.ref r0, jk, jk, .int v1]) ⟨Or.inr rfl, Or.inl rfl, Or.inl rfl, Or.inr rfl, trivial⟩ h
  · replace h := h.2 hc
    show G Γ m_MO_part (d + 1) (0, 0) Q 4 [.ref r0, .int x1, .int x2] [] μ
    refine run_ok (pc' := 7) [(.aload_n 0, 0, 0, 0), (.iconst 1, 0, 0, 0), (.iload_n 2, 0, 0, 0)] _ _ _ _ (by decide +kernel) ?_
    show G Γ m_MO_part (d + 1) (0, 0) Q 7 [.ref r0, .int x1, .int x2] [.int x2, .int (w 1), .ref r0] μ
    refine g_invV (M' := m_MO_compares) (b1 := 0) (b2 := 0) (As := [.int (w 1), .int x2]) (a := r0) (st := []) lk_11_204 (by decide +kernel) rfl (dk_MO_compares d) (Nat.le_of_ble_eq_true rfl) (Or.inl ⟨11, o_r0_11, rfl⟩) h ?_
    rintro _ μ2 ⟨v2, rfl, h⟩ hn2
    show G Γ m_MO_part (d + 1) (0, 0) Q 10 [.ref r0, .int x1, .int x2] [.int v2] μ2
    refine run_ok (pc' := 18) [(.goto 7, 0, 0, 0), (.istore_n 3, 0, 0, 0)] _ _ _ _ (by decide +kernel) ?_
    show G Γ m_MO_part (d + 1) (0, 0) Q 18 [.ref r0, .int x1, .int x2, .int v2] [] μ2
    exact g_wk (ls' := [.ref r0, jk, jk, .int v2]) ⟨Or.inr rfl, Or.inl rfl, Or.inl rfl, Or.inr rfl, trivial⟩ h
set_option maxRecDepth 100000 in
theorem B_MO_part_18 {Γ : XG} {d : Nat} {Q : Option Value → XM → Prop} {r0 : Nat} {x3 : Int32} {μ : XM} (o_r0_11 : ob μ r0 11) (h : ((xI μ r0 11 = w (-1) → Call Γ m_MO_look d [.ref r0] μ (KI (fun v1 μ1 => ((v1 = w 38 → ∀ μ2, μ2 = sI μ1 r0 10 ((xI μ1 r0 10) + (w 1)) → Call Γ m_MO_unit d [.ref r0] μ2 (KI (fun v3 μ3 => ((x3 = w 0 → G Γ m_MO_part (d + 1) (0, 0) Q 18 [.ref r0, jk, jk, .int (w 0)] [] μ3) ∧ (¬ x3 = w 0 → ((v3 = w 0 → G Γ m_MO_part (d + 1) (0, 0) Q 18 [.ref r0, jk, jk, .int (w 0)] [] μ3) ∧ (¬ v3 = w 0 → G Γ m_MO_part (d + 1) (0, 0) Q 18 [.ref r0, jk, jk, .int (w 1)] [] μ3))))))) ∧ (¬ v1 = w 38 → ((x3 = w 0 ∨ x3 = w 1) ∧ Q (some (.int x3)) μ1)))))) ∧ (¬ xI μ r0 11 = w (-1) → ((x3 = w 0 ∨ x3 = w 1) ∧ Q (some (.int x3)) μ)))) : G Γ m_MO_part (d + 1) (0, 0) Q 18 [.ref r0, jk, jk, .int x3] [] μ := by
  refine run_ok (pc' := 23) [(.aload_n 0, 0, 0, 0), (.getfield 141, 11, 11, 0), (.iconst (-1), 0, 0, 0)] _ _ _ _ (by decide +kernel) ?_
  show _ ∧ (_)
  refine ⟨o_r0_11, ?_⟩
  show G Γ m_MO_part (d + 1) (0, 0) Q 23 [.ref r0, jk, jk, .int x3] [.int (w (-1)), .int (xI μ r0 11)] μ
  refine g_icmp_ne (pc' := 69) (off := 46) (by decide) (by decide +kernel) (fun hc => ?_) (fun hc => ?_)
  · replace h := h.2 hc
    show G Γ m_MO_part (d + 1) (0, 0) Q 69 [.ref r0, jk, jk, .int x3] [] μ
    refine run_ok (pc' := 70) [(.iload_n 3, 0, 0, 0)] _ _ _ _ (by decide +kernel) ?_
    show G Γ m_MO_part (d + 1) (0, 0) Q 70 [.ref r0, jk, jk, .int x3] [.int x3] μ
    exact g_retz (by decide +kernel) rfl h.1 h.2
  · replace h := h.1 hc
    show G Γ m_MO_part (d + 1) (0, 0) Q 26 [.ref r0, jk, jk, .int x3] [] μ
    refine run_ok (pc' := 27) [(.aload_n 0, 0, 0, 0)] _ _ _ _ (by decide +kernel) ?_
    show G Γ m_MO_part (d + 1) (0, 0) Q 27 [.ref r0, jk, jk, .int x3] [.ref r0] μ
    refine g_invV (M' := m_MO_look) (b1 := 0) (b2 := 0) (As := []) (a := r0) (st := []) lk_11_151 (by decide +kernel) rfl (dk_MO_look d) (Nat.le_of_ble_eq_true rfl) (Or.inl ⟨11, o_r0_11, rfl⟩) h ?_
    rintro _ μ1 ⟨v1, rfl, h⟩ hn1
    show G Γ m_MO_part (d + 1) (0, 0) Q 30 [.ref r0, jk, jk, .int x3] [.int v1] μ1
    refine run_ok (pc' := 32) [(.bipush 38, 0, 0, 0)] _ _ _ _ (by decide +kernel) ?_
    show G Γ m_MO_part (d + 1) (0, 0) Q 32 [.ref r0, jk, jk, .int x3] [.int (w 38), .int v1] μ1
    refine g_icmp_ne (pc' := 69) (off := 37) (by decide) (by decide +kernel) (fun hc => ?_) (fun hc => ?_)
    · replace h := h.2 hc
      show G Γ m_MO_part (d + 1) (0, 0) Q 69 [.ref r0, jk, jk, .int x3] [] μ1
      refine run_ok (pc' := 70) [(.iload_n 3, 0, 0, 0)] _ _ _ _ (by decide +kernel) ?_
      show G Γ m_MO_part (d + 1) (0, 0) Q 70 [.ref r0, jk, jk, .int x3] [.int x3] μ1
      exact g_retz (by decide +kernel) rfl h.1 h.2
    · replace h := h.1 hc
      show G Γ m_MO_part (d + 1) (0, 0) Q 35 [.ref r0, jk, jk, .int x3] [] μ1
      refine run_ok (pc' := 45) [(.aload_n 0, 0, 0, 0), (.dup, 0, 0, 0), (.getfield 132, 11, 10, 0), (.iconst 1, 0, 0, 0), (.iadd, 0, 0, 0), (.putfield 132, 11, 10, 0)] _ _ _ _ (by decide +kernel) ?_
      show _ ∧ (_ ∧ (_))
      refine ⟨((o_r0_11).mono hn1), ((o_r0_11).mono hn1), ?_⟩
      show G Γ m_MO_part (d + 1) (0, 0) Q 45 [.ref r0, jk, jk, .int x3] [] (sI μ1 r0 10 ((xI μ1 r0 10) + (w 1)))
      obtain ⟨μ2, em2⟩ : ∃ m : XM, m = sI μ1 r0 10 ((xI μ1 r0 10) + (w 1)) := ⟨_, rfl⟩
      replace h := h μ2 em2
      have hm2 : xN μ1 ≤ xN μ2 := by rw [em2]; exact Nat.le_refl _
      rw [← em2]
      refine run_ok (pc' := 46) [(.aload_n 0, 0, 0, 0)] _ _ _ _ (by decide +kernel) ?_
      show G Γ m_MO_part (d + 1) (0, 0) Q 46 [.ref r0, jk, jk, .int x3] [.ref r0] μ2
      refine g_invV (M' := m_MO_unit) (b1 := 0) (b2 := 0) (As := []) (a := r0) (st := []) lk_11_197 (by decide +kernel) rfl (dk_MO_unit d) (Nat.le_of_ble_eq_true rfl) (Or.inl ⟨11, (((o_r0_11).mono hn1).mono hm2), rfl⟩) h ?_
      rintro _ μ3 ⟨v3, rfl, h⟩ hn3
      show G Γ m_MO_part (d + 1) (0, 0) Q 49 [.ref r0, jk, jk, .int x3] [.int v3] μ3
      refine run_ok (pc' := 52) [(.istore 4, 0, 0, 0), (.iload_n 3, 0, 0, 0)] _ _ _ _ (by decide +kernel) ?_
      show G Γ m_MO_part (d + 1) (0, 0) Q 52 [.ref r0, jk, jk, .int x3, .int v3] [.int x3] μ3
      refine g_ifz_eq (pc' := 64) (off := 12) (by decide) (by decide +kernel) (fun hc => ?_) (fun hc => ?_)
      · replace h := h.1 hc
        show G Γ m_MO_part (d + 1) (0, 0) Q 64 [.ref r0, jk, jk, .int x3, .int v3] [] μ3
        refine run_ok (pc' := 18) [(.iconst 0, 0, 0, 0), (.istore_n 3, 0, 0, 0), (.goto (-48), 0, 0, 0)] _ _ _ _ (by decide +kernel) ?_
        show G Γ m_MO_part (d + 1) (0, 0) Q 18 [.ref r0, jk, jk, .int (w 0), .int v3] [] μ3
        exact g_wk (ls' := [.ref r0, jk, jk, .int (w 0)]) ⟨Or.inr rfl, Or.inl rfl, Or.inl rfl, Or.inr rfl, trivial⟩ h
      · replace h := h.2 hc
        show G Γ m_MO_part (d + 1) (0, 0) Q 55 [.ref r0, jk, jk, .int x3, .int v3] [] μ3
        refine run_ok (pc' := 57) [(.iload 4, 0, 0, 0)] _ _ _ _ (by decide +kernel) ?_
        show G Γ m_MO_part (d + 1) (0, 0) Q 57 [.ref r0, jk, jk, .int x3, .int v3] [.int v3] μ3
        refine g_ifz_eq (pc' := 64) (off := 7) (by decide) (by decide +kernel) (fun hc => ?_) (fun hc => ?_)
        · replace h := h.1 hc
          show G Γ m_MO_part (d + 1) (0, 0) Q 64 [.ref r0, jk, jk, .int x3, .int v3] [] μ3
          refine run_ok (pc' := 18) [(.iconst 0, 0, 0, 0), (.istore_n 3, 0, 0, 0), (.goto (-48), 0, 0, 0)] _ _ _ _ (by decide +kernel) ?_
          show G Γ m_MO_part (d + 1) (0, 0) Q 18 [.ref r0, jk, jk, .int (w 0), .int v3] [] μ3
          exact g_wk (ls' := [.ref r0, jk, jk, .int (w 0)]) ⟨Or.inr rfl, Or.inl rfl, Or.inl rfl, Or.inr rfl, trivial⟩ h
        · replace h := h.2 hc
          show G Γ m_MO_part (d + 1) (0, 0) Q 60 [.ref r0, jk, jk, .int x3, .int v3] [] μ3
          refine run_ok (pc' := 18) [(.iconst 1, 0, 0, 0), (.goto 4, 0, 0, 0), (.istore_n 3, 0, 0, 0), (.goto (-48), 0, 0, 0)] _ _ _ _ (by decide +kernel) ?_
          show G Γ m_MO_part (d + 1) (0, 0) Q 18 [.ref r0, jk, jk, .int (w 1), .int v3] [] μ3
          exact g_wk (ls' := [.ref r0, jk, jk, .int (w 1)]) ⟨Or.inr rfl, Or.inl rfl, Or.inl rfl, Or.inr rfl, trivial⟩ h
/-! FrostBoxModel condition(ZI)Z -/
set_option maxRecDepth 100000 in
theorem lk_11_207 : LkV 11 207 m_MO_part 2 := ⟨lc_MO_part, lwG_in (List.mem_of_getElem? (i := 1529) rfl) rfl, lwG_in (List.mem_of_getElem? (i := 1531) rfl) rfl, lwG_in (List.mem_of_getElem? (i := 65) rfl) rfl⟩
set_option maxRecDepth 100000 in
theorem B_MO_condition_0 {Γ : XG} {d : Nat} {Q : Option Value → XM → Prop} {r0 : Nat} {x1 x2 : Int32} {μ : XM} (o_r0_11 : ob μ r0 11) (h : Call Γ m_MO_part d [.ref r0, .int x1, .int x2] μ (KI (fun v1 μ1 => G Γ m_MO_condition (d + 1) (0, 0) Q 7 [.ref r0, jk, jk, .int v1] [] μ1))) : G Γ m_MO_condition (d + 1) (0, 0) Q 0 [.ref r0, .int x1, .int x2] [] μ := by
  refine run_ok (pc' := 3) [(.aload_n 0, 0, 0, 0), (.iload_n 1, 0, 0, 0), (.iload_n 2, 0, 0, 0)] _ _ _ _ (by decide +kernel) ?_
  show G Γ m_MO_condition (d + 1) (0, 0) Q 3 [.ref r0, .int x1, .int x2] [.int x2, .int x1, .ref r0] μ
  refine g_invV (M' := m_MO_part) (b1 := 0) (b2 := 0) (As := [.int x1, .int x2]) (a := r0) (st := []) lk_11_207 (by decide +kernel) rfl (dk_MO_part d) (Nat.le_of_ble_eq_true rfl) (Or.inl ⟨11, o_r0_11, rfl⟩) h ?_
  rintro _ μ1 ⟨v1, rfl, h⟩ hn1
  show G Γ m_MO_condition (d + 1) (0, 0) Q 6 [.ref r0, .int x1, .int x2] [.int v1] μ1
  refine run_ok (pc' := 7) [(.istore_n 3, 0, 0, 0)] _ _ _ _ (by decide +kernel) ?_
  show G Γ m_MO_condition (d + 1) (0, 0) Q 7 [.ref r0, .int x1, .int x2, .int v1] [] μ1
  exact g_wk (ls' := [.ref r0, jk, jk, .int v1]) ⟨Or.inr rfl, Or.inl rfl, Or.inl rfl, Or.inr rfl, trivial⟩ h
set_option maxRecDepth 100000 in
theorem B_MO_condition_7 {Γ : XG} {d : Nat} {Q : Option Value → XM → Prop} {r0 : Nat} {x3 : Int32} {μ : XM} (o_r0_11 : ob μ r0 11) (h : ((xI μ r0 11 = w (-1) → Call Γ m_MO_look d [.ref r0] μ (KI (fun v1 μ1 => ((v1 = w 124 → ∀ μ2, μ2 = sI μ1 r0 10 ((xI μ1 r0 10) + (w 1)) → Call Γ m_MO_part d [.ref r0, .int (w 0), .int (w 0)] μ2 (KI (fun v3 μ3 => ((x3 = w 0 → ((v3 = w 0 → G Γ m_MO_condition (d + 1) (0, 0) Q 7 [.ref r0, jk, jk, .int (w 0)] [] μ3) ∧ (¬ v3 = w 0 → G Γ m_MO_condition (d + 1) (0, 0) Q 7 [.ref r0, jk, jk, .int (w 1)] [] μ3))) ∧ (¬ x3 = w 0 → G Γ m_MO_condition (d + 1) (0, 0) Q 7 [.ref r0, jk, jk, .int (w 1)] [] μ3))))) ∧ (¬ v1 = w 124 → ((x3 = w 0 ∨ x3 = w 1) ∧ Q (some (.int x3)) μ1)))))) ∧ (¬ xI μ r0 11 = w (-1) → ((x3 = w 0 ∨ x3 = w 1) ∧ Q (some (.int x3)) μ)))) : G Γ m_MO_condition (d + 1) (0, 0) Q 7 [.ref r0, jk, jk, .int x3] [] μ := by
  refine run_ok (pc' := 12) [(.aload_n 0, 0, 0, 0), (.getfield 141, 11, 11, 0), (.iconst (-1), 0, 0, 0)] _ _ _ _ (by decide +kernel) ?_
  show _ ∧ (_)
  refine ⟨o_r0_11, ?_⟩
  show G Γ m_MO_condition (d + 1) (0, 0) Q 12 [.ref r0, jk, jk, .int x3] [.int (w (-1)), .int (xI μ r0 11)] μ
  refine g_icmp_ne (pc' := 60) (off := 48) (by decide) (by decide +kernel) (fun hc => ?_) (fun hc => ?_)
  · replace h := h.2 hc
    show G Γ m_MO_condition (d + 1) (0, 0) Q 60 [.ref r0, jk, jk, .int x3] [] μ
    refine run_ok (pc' := 61) [(.iload_n 3, 0, 0, 0)] _ _ _ _ (by decide +kernel) ?_
    show G Γ m_MO_condition (d + 1) (0, 0) Q 61 [.ref r0, jk, jk, .int x3] [.int x3] μ
    exact g_retz (by decide +kernel) rfl h.1 h.2
  · replace h := h.1 hc
    show G Γ m_MO_condition (d + 1) (0, 0) Q 15 [.ref r0, jk, jk, .int x3] [] μ
    refine run_ok (pc' := 16) [(.aload_n 0, 0, 0, 0)] _ _ _ _ (by decide +kernel) ?_
    show G Γ m_MO_condition (d + 1) (0, 0) Q 16 [.ref r0, jk, jk, .int x3] [.ref r0] μ
    refine g_invV (M' := m_MO_look) (b1 := 0) (b2 := 0) (As := []) (a := r0) (st := []) lk_11_151 (by decide +kernel) rfl (dk_MO_look d) (Nat.le_of_ble_eq_true rfl) (Or.inl ⟨11, o_r0_11, rfl⟩) h ?_
    rintro _ μ1 ⟨v1, rfl, h⟩ hn1
    show G Γ m_MO_condition (d + 1) (0, 0) Q 19 [.ref r0, jk, jk, .int x3] [.int v1] μ1
    refine run_ok (pc' := 21) [(.bipush 124, 0, 0, 0)] _ _ _ _ (by decide +kernel) ?_
    show G Γ m_MO_condition (d + 1) (0, 0) Q 21 [.ref r0, jk, jk, .int x3] [.int (w 124), .int v1] μ1
    refine g_icmp_ne (pc' := 60) (off := 39) (by decide) (by decide +kernel) (fun hc => ?_) (fun hc => ?_)
    · replace h := h.2 hc
      show G Γ m_MO_condition (d + 1) (0, 0) Q 60 [.ref r0, jk, jk, .int x3] [] μ1
      refine run_ok (pc' := 61) [(.iload_n 3, 0, 0, 0)] _ _ _ _ (by decide +kernel) ?_
      show G Γ m_MO_condition (d + 1) (0, 0) Q 61 [.ref r0, jk, jk, .int x3] [.int x3] μ1
      exact g_retz (by decide +kernel) rfl h.1 h.2
    · replace h := h.1 hc
      show G Γ m_MO_condition (d + 1) (0, 0) Q 24 [.ref r0, jk, jk, .int x3] [] μ1
      refine run_ok (pc' := 34) [(.aload_n 0, 0, 0, 0), (.dup, 0, 0, 0), (.getfield 132, 11, 10, 0), (.iconst 1, 0, 0, 0), (.iadd, 0, 0, 0), (.putfield 132, 11, 10, 0)] _ _ _ _ (by decide +kernel) ?_
      show _ ∧ (_ ∧ (_))
      refine ⟨((o_r0_11).mono hn1), ((o_r0_11).mono hn1), ?_⟩
      show G Γ m_MO_condition (d + 1) (0, 0) Q 34 [.ref r0, jk, jk, .int x3] [] (sI μ1 r0 10 ((xI μ1 r0 10) + (w 1)))
      obtain ⟨μ2, em2⟩ : ∃ m : XM, m = sI μ1 r0 10 ((xI μ1 r0 10) + (w 1)) := ⟨_, rfl⟩
      replace h := h μ2 em2
      have hm2 : xN μ1 ≤ xN μ2 := by rw [em2]; exact Nat.le_refl _
      rw [← em2]
      refine run_ok (pc' := 37) [(.aload_n 0, 0, 0, 0), (.iconst 0, 0, 0, 0), (.iconst 0, 0, 0, 0)] _ _ _ _ (by decide +kernel) ?_
      show G Γ m_MO_condition (d + 1) (0, 0) Q 37 [.ref r0, jk, jk, .int x3] [.int (w 0), .int (w 0), .ref r0] μ2
      refine g_invV (M' := m_MO_part) (b1 := 0) (b2 := 0) (As := [.int (w 0), .int (w 0)]) (a := r0) (st := []) lk_11_207 (by decide +kernel) rfl (dk_MO_part d) (Nat.le_of_ble_eq_true rfl) (Or.inl ⟨11, (((o_r0_11).mono hn1).mono hm2), rfl⟩) h ?_
      rintro _ μ3 ⟨v3, rfl, h⟩ hn3
      show G Γ m_MO_condition (d + 1) (0, 0) Q 40 [.ref r0, jk, jk, .int x3] [.int v3] μ3
      refine run_ok (pc' := 43) [(.istore 4, 0, 0, 0), (.iload_n 3, 0, 0, 0)] _ _ _ _ (by decide +kernel) ?_
      show G Γ m_MO_condition (d + 1) (0, 0) Q 43 [.ref r0, jk, jk, .int x3, .int v3] [.int x3] μ3
      refine g_ifz_ne (pc' := 51) (off := 8) (by decide) (by decide +kernel) (fun hc => ?_) (fun hc => ?_)
      · replace h := h.2 hc
        show G Γ m_MO_condition (d + 1) (0, 0) Q 51 [.ref r0, jk, jk, .int x3, .int v3] [] μ3
        refine run_ok (pc' := 7) [(.iconst 1, 0, 0, 0), (.goto 4, 0, 0, 0), (.istore_n 3, 0, 0, 0), (.goto (-50), 0, 0, 0)] _ _ _ _ (by decide +kernel) ?_
        show G Γ m_MO_condition (d + 1) (0, 0) Q 7 [.ref r0, jk, jk, .int (w 1), .int v3] [] μ3
        exact g_wk (ls' := [.ref r0, jk, jk, .int (w 1)]) ⟨Or.inr rfl, Or.inl rfl, Or.inl rfl, Or.inr rfl, trivial⟩ h
      · replace h := h.1 hc
        show G Γ m_MO_condition (d + 1) (0, 0) Q 46 [.ref r0, jk, jk, .int x3, .int v3] [] μ3
        refine run_ok (pc' := 48) [(.iload 4, 0, 0, 0)] _ _ _ _ (by decide +kernel) ?_
        show G Γ m_MO_condition (d + 1) (0, 0) Q 48 [.ref r0, jk, jk, .int x3, .int v3] [.int v3] μ3
        refine g_ifz_eq (pc' := 55) (off := 7) (by decide) (by decide +kernel) (fun hc => ?_) (fun hc => ?_)
        · replace h := h.1 hc
          show G Γ m_MO_condition (d + 1) (0, 0) Q 55 [.ref r0, jk, jk, .int x3, .int v3] [] μ3
          refine run_ok (pc' := 7) [(.iconst 0, 0, 0, 0), (.istore_n 3, 0, 0, 0), (.goto (-50), 0, 0, 0)] _ _ _ _ (by decide +kernel) ?_
          show G Γ m_MO_condition (d + 1) (0, 0) Q 7 [.ref r0, jk, jk, .int (w 0), .int v3] [] μ3
          exact g_wk (ls' := [.ref r0, jk, jk, .int (w 0)]) ⟨Or.inr rfl, Or.inl rfl, Or.inl rfl, Or.inr rfl, trivial⟩ h
        · replace h := h.2 hc
          show G Γ m_MO_condition (d + 1) (0, 0) Q 51 [.ref r0, jk, jk, .int x3, .int v3] [] μ3
          refine run_ok (pc' := 7) [(.iconst 1, 0, 0, 0), (.goto 4, 0, 0, 0), (.istore_n 3, 0, 0, 0), (.goto (-50), 0, 0, 0)] _ _ _ _ (by decide +kernel) ?_
          show G Γ m_MO_condition (d + 1) (0, 0) Q 7 [.ref r0, jk, jk, .int (w 1), .int v3] [] μ3
          exact g_wk (ls' := [.ref r0, jk, jk, .int (w 1)]) ⟨Or.inr rfl, Or.inl rfl, Or.inl rfl, Or.inr rfl, trivial⟩ h
/-! FrostBoxModel clause()V -/
set_option maxRecDepth 100000 in
theorem B_MO_clause_0 {Γ : XG} {d : Nat} {Q : Option Value → XM → Prop} {r0 : Nat} {μ : XM} (o_r0_11 : ob μ r0 11) (h : Call Γ m_MO_look d [.ref r0] μ (KI (fun v1 μ1 => Call Γ m_MO_isAmong d [.ref 14, .int v1] μ1 (KI (fun v2 μ2 => ((v2 = w 0 → Call Γ m_MO_fails d [.ref r0] μ2 (KI (fun v18 μ18 => Q none μ18))) ∧ (¬ v2 = w 0 → ∀ μ3, μ3 = sI μ2 r0 10 ((xI μ2 r0 10) + (w 1)) → Call Γ m_MO_takes d [.ref r0, .int (w 58)] μ3 (KI (fun v4 μ4 => ((v4 = w 0 → Q none μ4) ∧ (¬ v4 = w 0 → Call Γ m_MO_look d [.ref r0] μ4 (KI (fun v5 μ5 => ((v5 = w 33 → Call Γ m_MO_condition d [.ref r0, .int (w 0), .int (w 0)] μ5 (KI (fun v6 μ6 => Call Γ m_MO_takes d [.ref r0, .int (w 63)] μ6 (KI (fun v7 μ7 => ((v7 = w 0 → Q none μ7) ∧ (¬ v7 = w 0 → Call Γ m_MO_sum d [.ref r0] μ7 (KI (fun v8 μ8 => G Γ m_MO_clause (d + 1) (0, 0) Q 134 [.ref r0, .int v1, .int v6, .int v8] [] μ8))))))))) ∧ (¬ v5 = w 33 → ((v5 = w 40 → Call Γ m_MO_condition d [.ref r0, .int (w 0), .int (w 0)] μ5 (KI (fun v15 μ15 => Call Γ m_MO_takes d [.ref r0, .int (w 63)] μ15 (KI (fun v16 μ16 => ((v16 = w 0 → Q none μ16) ∧ (¬ v16 = w 0 → Call Γ m_MO_sum d [.ref r0] μ16 (KI (fun v17 μ17 => G Γ m_MO_clause (d + 1) (0, 0) Q 134 [.ref r0, .int v1, .int v15, .int v17] [] μ17))))))))) ∧ (¬ v5 = w 40 → Call Γ m_MO_sum d [.ref r0] μ5 (KI (fun v9 μ9 => ((xI μ9 r0 11 = w (-1) → Call Γ m_MO_look d [.ref r0] μ9 (KI (fun v10 μ10 => Call Γ m_MO_isSign d [.int v10] μ10 (KI (fun v11 μ11 => ((v11 = w 0 → G Γ m_MO_clause (d + 1) (0, 0) Q 134 [.ref r0, .int v1, .int (w 1), .int v9] [] μ11) ∧ (¬ v11 = w 0 → Call Γ m_MO_condition d [.ref r0, .int (w 1), .int v9] μ11 (KI (fun v12 μ12 => Call Γ m_MO_takes d [.ref r0, .int (w 63)] μ12 (KI (fun v13 μ13 => ((v13 = w 0 → Q none μ13) ∧ (¬ v13 = w 0 → Call Γ m_MO_sum d [.ref r0] μ13 (KI (fun v14 μ14 => G Γ m_MO_clause (d + 1) (0, 0) Q 134 [.ref r0, .int v1, .int v12, .int v14] [] μ14))))))))))))))) ∧ (¬ xI μ9 r0 11 = w (-1) → G Γ m_MO_clause (d + 1) (0, 0) Q 134 [.ref r0, .int v1, .int (w 1), .int v9] [] μ9))))))))))))))))))))) : G Γ m_MO_clause (d + 1) (0, 0) Q 0 [.ref r0] [] μ := by
  refine run_ok (pc' := 1) [(.aload_n 0, 0, 0, 0)] _ _ _ _ (by decide +kernel) ?_
  show G Γ m_MO_clause (d + 1) (0, 0) Q 1 [.ref r0] [.ref r0] μ
  refine g_invV (M' := m_MO_look) (b1 := 0) (b2 := 0) (As := []) (a := r0) (st := []) lk_11_151 (by decide +kernel) rfl (dk_MO_look d) (Nat.le_of_ble_eq_true rfl) (Or.inl ⟨11, o_r0_11, rfl⟩) h ?_
  rintro _ μ1 ⟨v1, rfl, h⟩ hn1
  show G Γ m_MO_clause (d + 1) (0, 0) Q 4 [.ref r0] [.int v1] μ1
  refine run_ok (pc' := 8) [(.istore_n 1, 0, 0, 0), (.ldc 26, 1, 0, 0), (.iload_n 1, 0, 0, 0)] _ _ _ _ (by decide +kernel) ?_
  show G Γ m_MO_clause (d + 1) (0, 0) Q 8 [.ref r0, .int v1] [.int v1, .ref 14] μ1
  refine g_invS (M' := m_MO_isAmong) (b1 := 0) (b2 := 0) (As := [.ref 14, .int v1]) (st := []) lk_11_167 (by decide +kernel) rfl (dk_MO_isAmong d) (Nat.le_of_ble_eq_true rfl) h ?_
  rintro _ μ2 ⟨v2, rfl, h⟩ hn2
  show G Γ m_MO_clause (d + 1) (0, 0) Q 11 [.ref r0, .int v1] [.int v2] μ2
  refine g_ifz_ne (pc' := 20) (off := 9) (by decide) (by decide +kernel) (fun hc => ?_) (fun hc => ?_)
  · replace h := h.2 hc
    show G Γ m_MO_clause (d + 1) (0, 0) Q 20 [.ref r0, .int v1] [] μ2
    refine run_ok (pc' := 30) [(.aload_n 0, 0, 0, 0), (.dup, 0, 0, 0), (.getfield 132, 11, 10, 0), (.iconst 1, 0, 0, 0), (.iadd, 0, 0, 0), (.putfield 132, 11, 10, 0)] _ _ _ _ (by decide +kernel) ?_
    show _ ∧ (_ ∧ (_))
    refine ⟨(((o_r0_11).mono hn1).mono hn2), (((o_r0_11).mono hn1).mono hn2), ?_⟩
    show G Γ m_MO_clause (d + 1) (0, 0) Q 30 [.ref r0, .int v1] [] (sI μ2 r0 10 ((xI μ2 r0 10) + (w 1)))
    obtain ⟨μ3, em3⟩ : ∃ m : XM, m = sI μ2 r0 10 ((xI μ2 r0 10) + (w 1)) := ⟨_, rfl⟩
    replace h := h μ3 em3
    have hm3 : xN μ2 ≤ xN μ3 := by rw [em3]; exact Nat.le_refl _
    rw [← em3]
    refine run_ok (pc' := 33) [(.aload_n 0, 0, 0, 0), (.bipush 58, 0, 0, 0)] _ _ _ _ (by decide +kernel) ?_
    show G Γ m_MO_clause (d + 1) (0, 0) Q 33 [.ref r0, .int v1] [.int (w 58), .ref r0] μ3
    refine g_invV (M' := m_MO_takes) (b1 := 0) (b2 := 0) (As := [.int (w 58)]) (a := r0) (st := []) lk_11_177 (by decide +kernel) rfl (dk_MO_takes d) (Nat.le_of_ble_eq_true rfl) (Or.inl ⟨11, ((((o_r0_11).mono hn1).mono hn2).mono hm3), rfl⟩) h ?_
    rintro _ μ4 ⟨v4, rfl, h⟩ hn4
    show G Γ m_MO_clause (d + 1) (0, 0) Q 36 [.ref r0, .int v1] [.int v4] μ4
    refine g_ifz_ne (pc' := 40) (off := 4) (by decide) (by decide +kernel) (fun hc => ?_) (fun hc => ?_)
    · replace h := h.2 hc
      show G Γ m_MO_clause (d + 1) (0, 0) Q 40 [.ref r0, .int v1] [] μ4
      refine run_ok (pc' := 45) [(.iconst 1, 0, 0, 0), (.istore_n 2, 0, 0, 0), (.iconst 0, 0, 0, 0), (.istore_n 3, 0, 0, 0), (.aload_n 0, 0, 0, 0)] _ _ _ _ (by decide +kernel) ?_
      show G Γ m_MO_clause (d + 1) (0, 0) Q 45 [.ref r0, .int v1, .int (w 1), .int (w 0)] [.ref r0] μ4
      refine g_invV (M' := m_MO_look) (b1 := 0) (b2 := 0) (As := []) (a := r0) (st := []) lk_11_151 (by decide +kernel) rfl (dk_MO_look d) (Nat.le_of_ble_eq_true rfl) (Or.inl ⟨11, (((((o_r0_11).mono hn1).mono hn2).mono hm3).mono hn4), rfl⟩) h ?_
      rintro _ μ5 ⟨v5, rfl, h⟩ hn5
      show G Γ m_MO_clause (d + 1) (0, 0) Q 48 [.ref r0, .int v1, .int (w 1), .int (w 0)] [.int v5] μ5
      refine run_ok (pc' := 54) [(.istore 4, 0, 0, 0), (.iload 4, 0, 0, 0), (.bipush 33, 0, 0, 0)] _ _ _ _ (by decide +kernel) ?_
      show G Γ m_MO_clause (d + 1) (0, 0) Q 54 [.ref r0, .int v1, .int (w 1), .int (w 0), .int v5] [.int (w 33), .int v5] μ5
      refine g_icmp_eq (pc' := 64) (off := 10) (by decide) (by decide +kernel) (fun hc => ?_) (fun hc => ?_)
      · replace h := h.1 hc
        show G Γ m_MO_clause (d + 1) (0, 0) Q 64 [.ref r0, .int v1, .int (w 1), .int (w 0), .int v5] [] μ5
        refine run_ok (pc' := 67) [(.aload_n 0, 0, 0, 0), (.iconst 0, 0, 0, 0), (.iconst 0, 0, 0, 0)] _ _ _ _ (by decide +kernel) ?_
        show G Γ m_MO_clause (d + 1) (0, 0) Q 67 [.ref r0, .int v1, .int (w 1), .int (w 0), .int v5] [.int (w 0), .int (w 0), .ref r0] μ5
        refine g_invV (M' := m_MO_condition) (b1 := 0) (b2 := 0) (As := [.int (w 0), .int (w 0)]) (a := r0) (st := []) lk_11_200 (by decide +kernel) rfl (dk_MO_condition d) (Nat.le_of_ble_eq_true rfl) (Or.inl ⟨11, ((((((o_r0_11).mono hn1).mono hn2).mono hm3).mono hn4).mono hn5), rfl⟩) h ?_
        rintro _ μ6 ⟨v6, rfl, h⟩ hn6
        show G Γ m_MO_clause (d + 1) (0, 0) Q 70 [.ref r0, .int v1, .int (w 1), .int (w 0), .int v5] [.int v6] μ6
        refine run_ok (pc' := 74) [(.istore_n 2, 0, 0, 0), (.aload_n 0, 0, 0, 0), (.bipush 63, 0, 0, 0)] _ _ _ _ (by decide +kernel) ?_
        show G Γ m_MO_clause (d + 1) (0, 0) Q 74 [.ref r0, .int v1, .int v6, .int (w 0), .int v5] [.int (w 63), .ref r0] μ6
        refine g_invV (M' := m_MO_takes) (b1 := 0) (b2 := 0) (As := [.int (w 63)]) (a := r0) (st := []) lk_11_177 (by decide +kernel) rfl (dk_MO_takes d) (Nat.le_of_ble_eq_true rfl) (Or.inl ⟨11, (((((((o_r0_11).mono hn1).mono hn2).mono hm3).mono hn4).mono hn5).mono hn6), rfl⟩) h ?_
        rintro _ μ7 ⟨v7, rfl, h⟩ hn7
        show G Γ m_MO_clause (d + 1) (0, 0) Q 77 [.ref r0, .int v1, .int v6, .int (w 0), .int v5] [.int v7] μ7
        refine g_ifz_ne (pc' := 81) (off := 4) (by decide) (by decide +kernel) (fun hc => ?_) (fun hc => ?_)
        · replace h := h.2 hc
          show G Γ m_MO_clause (d + 1) (0, 0) Q 81 [.ref r0, .int v1, .int v6, .int (w 0), .int v5] [] μ7
          refine run_ok (pc' := 82) [(.aload_n 0, 0, 0, 0)] _ _ _ _ (by decide +kernel) ?_
          show G Γ m_MO_clause (d + 1) (0, 0) Q 82 [.ref r0, .int v1, .int v6, .int (w 0), .int v5] [.ref r0] μ7
          refine g_invV (M' := m_MO_sum) (b1 := 0) (b2 := 0) (As := []) (a := r0) (st := []) lk_11_174 (by decide +kernel) rfl (dk_MO_sum d) (Nat.le_of_ble_eq_true rfl) (Or.inl ⟨11, ((((((((o_r0_11).mono hn1).mono hn2).mono hm3).mono hn4).mono hn5).mono hn6).mono hn7), rfl⟩) h ?_
          rintro _ μ8 ⟨v8, rfl, h⟩ hn8
          show G Γ m_MO_clause (d + 1) (0, 0) Q 85 [.ref r0, .int v1, .int v6, .int (w 0), .int v5] [.int v8] μ8
          refine run_ok (pc' := 134) [(.istore_n 3, 0, 0, 0), (.goto 48, 0, 0, 0)] _ _ _ _ (by decide +kernel) ?_
          show G Γ m_MO_clause (d + 1) (0, 0) Q 134 [.ref r0, .int v1, .int v6, .int v8, .int v5] [] μ8
          exact g_wk (ls' := [.ref r0, .int v1, .int v6, .int v8]) ⟨Or.inr rfl, Or.inr rfl, Or.inr rfl, Or.inr rfl, trivial⟩ h
        · replace h := h.1 hc
          show G Γ m_MO_clause (d + 1) (0, 0) Q 80 [.ref r0, .int v1, .int v6, .int (w 0), .int v5] [] μ7
          exact g_retv (by decide +kernel) rfl h
      · replace h := h.2 hc
        show G Γ m_MO_clause (d + 1) (0, 0) Q 57 [.ref r0, .int v1, .int (w 1), .int (w 0), .int v5] [] μ5
        refine run_ok (pc' := 61) [(.iload 4, 0, 0, 0), (.bipush 40, 0, 0, 0)] _ _ _ _ (by decide +kernel) ?_
        show G Γ m_MO_clause (d + 1) (0, 0) Q 61 [.ref r0, .int v1, .int (w 1), .int (w 0), .int v5] [.int (w 40), .int v5] μ5
        refine g_icmp_ne (pc' := 89) (off := 28) (by decide) (by decide +kernel) (fun hc => ?_) (fun hc => ?_)
        · replace h := h.2 hc
          show G Γ m_MO_clause (d + 1) (0, 0) Q 89 [.ref r0, .int v1, .int (w 1), .int (w 0), .int v5] [] μ5
          refine run_ok (pc' := 90) [(.aload_n 0, 0, 0, 0)] _ _ _ _ (by decide +kernel) ?_
          show G Γ m_MO_clause (d + 1) (0, 0) Q 90 [.ref r0, .int v1, .int (w 1), .int (w 0), .int v5] [.ref r0] μ5
          refine g_invV (M' := m_MO_sum) (b1 := 0) (b2 := 0) (As := []) (a := r0) (st := []) lk_11_174 (by decide +kernel) rfl (dk_MO_sum d) (Nat.le_of_ble_eq_true rfl) (Or.inl ⟨11, ((((((o_r0_11).mono hn1).mono hn2).mono hm3).mono hn4).mono hn5), rfl⟩) h ?_
          rintro _ μ9 ⟨v9, rfl, h⟩ hn9
          show G Γ m_MO_clause (d + 1) (0, 0) Q 93 [.ref r0, .int v1, .int (w 1), .int (w 0), .int v5] [.int v9] μ9
          refine run_ok (pc' := 99) [(.istore_n 3, 0, 0, 0), (.aload_n 0, 0, 0, 0), (.getfield 141, 11, 11, 0), (.iconst (-1), 0, 0, 0)] _ _ _ _ (by decide +kernel) ?_
          show _ ∧ (_)
          refine ⟨(((((((o_r0_11).mono hn1).mono hn2).mono hm3).mono hn4).mono hn5).mono hn9), ?_⟩
          show G Γ m_MO_clause (d + 1) (0, 0) Q 99 [.ref r0, .int v1, .int (w 1), .int v9, .int v5] [.int (w (-1)), .int (xI μ9 r0 11)] μ9
          refine g_icmp_ne (pc' := 134) (off := 35) (by decide) (by decide +kernel) (fun hc => ?_) (fun hc => ?_)
          · replace h := h.2 hc
            show G Γ m_MO_clause (d + 1) (0, 0) Q 134 [.ref r0, .int v1, .int (w 1), .int v9, .int v5] [] μ9
            exact g_wk (ls' := [.ref r0, .int v1, .int (w 1), .int v9]) ⟨Or.inr rfl, Or.inr rfl, Or.inr rfl, Or.inr rfl, trivial⟩ h
          · replace h := h.1 hc
            show G Γ m_MO_clause (d + 1) (0, 0) Q 102 [.ref r0, .int v1, .int (w 1), .int v9, .int v5] [] μ9
            refine run_ok (pc' := 103) [(.aload_n 0, 0, 0, 0)] _ _ _ _ (by decide +kernel) ?_
            show G Γ m_MO_clause (d + 1) (0, 0) Q 103 [.ref r0, .int v1, .int (w 1), .int v9, .int v5] [.ref r0] μ9
            refine g_invV (M' := m_MO_look) (b1 := 0) (b2 := 0) (As := []) (a := r0) (st := []) lk_11_151 (by decide +kernel) rfl (dk_MO_look d) (Nat.le_of_ble_eq_true rfl) (Or.inl ⟨11, (((((((o_r0_11).mono hn1).mono hn2).mono hm3).mono hn4).mono hn5).mono hn9), rfl⟩) h ?_
            rintro _ μ10 ⟨v10, rfl, h⟩ hn10
            show G Γ m_MO_clause (d + 1) (0, 0) Q 106 [.ref r0, .int v1, .int (w 1), .int v9, .int v5] [.int v10] μ10
            refine g_invS (M' := m_MO_isSign) (b1 := 0) (b2 := 0) (As := [.int v10]) (st := []) lk_11_194 (by decide +kernel) rfl (dk_MO_isSign d) (Nat.le_of_ble_eq_true rfl) h ?_
            rintro _ μ11 ⟨v11, rfl, h⟩ hn11
            show G Γ m_MO_clause (d + 1) (0, 0) Q 109 [.ref r0, .int v1, .int (w 1), .int v9, .int v5] [.int v11] μ11
            refine g_ifz_eq (pc' := 134) (off := 25) (by decide) (by decide +kernel) (fun hc => ?_) (fun hc => ?_)
            · replace h := h.1 hc
              show G Γ m_MO_clause (d + 1) (0, 0) Q 134 [.ref r0, .int v1, .int (w 1), .int v9, .int v5] [] μ11
              exact g_wk (ls' := [.ref r0, .int v1, .int (w 1), .int v9]) ⟨Or.inr rfl, Or.inr rfl, Or.inr rfl, Or.inr rfl, trivial⟩ h
            · replace h := h.2 hc
              show G Γ m_MO_clause (d + 1) (0, 0) Q 112 [.ref r0, .int v1, .int (w 1), .int v9, .int v5] [] μ11
              refine run_ok (pc' := 115) [(.aload_n 0, 0, 0, 0), (.iconst 1, 0, 0, 0), (.iload_n 3, 0, 0, 0)] _ _ _ _ (by decide +kernel) ?_
              show G Γ m_MO_clause (d + 1) (0, 0) Q 115 [.ref r0, .int v1, .int (w 1), .int v9, .int v5] [.int v9, .int (w 1), .ref r0] μ11
              refine g_invV (M' := m_MO_condition) (b1 := 0) (b2 := 0) (As := [.int (w 1), .int v9]) (a := r0) (st := []) lk_11_200 (by decide +kernel) rfl (dk_MO_condition d) (Nat.le_of_ble_eq_true rfl) (Or.inl ⟨11, (((((((((o_r0_11).mono hn1).mono hn2).mono hm3).mono hn4).mono hn5).mono hn9).mono hn10).mono hn11), rfl⟩) h ?_
              rintro _ μ12 ⟨v12, rfl, h⟩ hn12
              show G Γ m_MO_clause (d + 1) (0, 0) Q 118 [.ref r0, .int v1, .int (w 1), .int v9, .int v5] [.int v12] μ12
              refine run_ok (pc' := 122) [(.istore_n 2, 0, 0, 0), (.aload_n 0, 0, 0, 0), (.bipush 63, 0, 0, 0)] _ _ _ _ (by decide +kernel) ?_
              show G Γ m_MO_clause (d + 1) (0, 0) Q 122 [.ref r0, .int v1, .int v12, .int v9, .int v5] [.int (w 63), .ref r0] μ12
              refine g_invV (M' := m_MO_takes) (b1 := 0) (b2 := 0) (As := [.int (w 63)]) (a := r0) (st := []) lk_11_177 (by decide +kernel) rfl (dk_MO_takes d) (Nat.le_of_ble_eq_true rfl) (Or.inl ⟨11, ((((((((((o_r0_11).mono hn1).mono hn2).mono hm3).mono hn4).mono hn5).mono hn9).mono hn10).mono hn11).mono hn12), rfl⟩) h ?_
              rintro _ μ13 ⟨v13, rfl, h⟩ hn13
              show G Γ m_MO_clause (d + 1) (0, 0) Q 125 [.ref r0, .int v1, .int v12, .int v9, .int v5] [.int v13] μ13
              refine g_ifz_ne (pc' := 129) (off := 4) (by decide) (by decide +kernel) (fun hc => ?_) (fun hc => ?_)
              · replace h := h.2 hc
                show G Γ m_MO_clause (d + 1) (0, 0) Q 129 [.ref r0, .int v1, .int v12, .int v9, .int v5] [] μ13
                refine run_ok (pc' := 130) [(.aload_n 0, 0, 0, 0)] _ _ _ _ (by decide +kernel) ?_
                show G Γ m_MO_clause (d + 1) (0, 0) Q 130 [.ref r0, .int v1, .int v12, .int v9, .int v5] [.ref r0] μ13
                refine g_invV (M' := m_MO_sum) (b1 := 0) (b2 := 0) (As := []) (a := r0) (st := []) lk_11_174 (by decide +kernel) rfl (dk_MO_sum d) (Nat.le_of_ble_eq_true rfl) (Or.inl ⟨11, (((((((((((o_r0_11).mono hn1).mono hn2).mono hm3).mono hn4).mono hn5).mono hn9).mono hn10).mono hn11).mono hn12).mono hn13), rfl⟩) h ?_
                rintro _ μ14 ⟨v14, rfl, h⟩ hn14
                show G Γ m_MO_clause (d + 1) (0, 0) Q 133 [.ref r0, .int v1, .int v12, .int v9, .int v5] [.int v14] μ14
                refine run_ok (pc' := 134) [(.istore_n 3, 0, 0, 0)] _ _ _ _ (by decide +kernel) ?_
                show G Γ m_MO_clause (d + 1) (0, 0) Q 134 [.ref r0, .int v1, .int v12, .int v14, .int v5] [] μ14
                exact g_wk (ls' := [.ref r0, .int v1, .int v12, .int v14]) ⟨Or.inr rfl, Or.inr rfl, Or.inr rfl, Or.inr rfl, trivial⟩ h
              · replace h := h.1 hc
                show G Γ m_MO_clause (d + 1) (0, 0) Q 128 [.ref r0, .int v1, .int v12, .int v9, .int v5] [] μ13
                exact g_retv (by decide +kernel) rfl h
        · replace h := h.1 hc
          show G Γ m_MO_clause (d + 1) (0, 0) Q 64 [.ref r0, .int v1, .int (w 1), .int (w 0), .int v5] [] μ5
          refine run_ok (pc' := 67) [(.aload_n 0, 0, 0, 0), (.iconst 0, 0, 0, 0), (.iconst 0, 0, 0, 0)] _ _ _ _ (by decide +kernel) ?_
          show G Γ m_MO_clause (d + 1) (0, 0) Q 67 [.ref r0, .int v1, .int (w 1), .int (w 0), .int v5] [.int (w 0), .int (w 0), .ref r0] μ5
          refine g_invV (M' := m_MO_condition) (b1 := 0) (b2 := 0) (As := [.int (w 0), .int (w 0)]) (a := r0) (st := []) lk_11_200 (by decide +kernel) rfl (dk_MO_condition d) (Nat.le_of_ble_eq_true rfl) (Or.inl ⟨11, ((((((o_r0_11).mono hn1).mono hn2).mono hm3).mono hn4).mono hn5), rfl⟩) h ?_
          rintro _ μ15 ⟨v15, rfl, h⟩ hn15
          show G Γ m_MO_clause (d + 1) (0, 0) Q 70 [.ref r0, .int v1, .int (w 1), .int (w 0), .int v5] [.int v15] μ15
          refine run_ok (pc' := 74) [(.istore_n 2, 0, 0, 0), (.aload_n 0, 0, 0, 0), (.bipush 63, 0, 0, 0)] _ _ _ _ (by decide +kernel) ?_
          show G Γ m_MO_clause (d + 1) (0, 0) Q 74 [.ref r0, .int v1, .int v15, .int (w 0), .int v5] [.int (w 63), .ref r0] μ15
          refine g_invV (M' := m_MO_takes) (b1 := 0) (b2 := 0) (As := [.int (w 63)]) (a := r0) (st := []) lk_11_177 (by decide +kernel) rfl (dk_MO_takes d) (Nat.le_of_ble_eq_true rfl) (Or.inl ⟨11, (((((((o_r0_11).mono hn1).mono hn2).mono hm3).mono hn4).mono hn5).mono hn15), rfl⟩) h ?_
          rintro _ μ16 ⟨v16, rfl, h⟩ hn16
          show G Γ m_MO_clause (d + 1) (0, 0) Q 77 [.ref r0, .int v1, .int v15, .int (w 0), .int v5] [.int v16] μ16
          refine g_ifz_ne (pc' := 81) (off := 4) (by decide) (by decide +kernel) (fun hc => ?_) (fun hc => ?_)
          · replace h := h.2 hc
            show G Γ m_MO_clause (d + 1) (0, 0) Q 81 [.ref r0, .int v1, .int v15, .int (w 0), .int v5] [] μ16
            refine run_ok (pc' := 82) [(.aload_n 0, 0, 0, 0)] _ _ _ _ (by decide +kernel) ?_
            show G Γ m_MO_clause (d + 1) (0, 0) Q 82 [.ref r0, .int v1, .int v15, .int (w 0), .int v5] [.ref r0] μ16
            refine g_invV (M' := m_MO_sum) (b1 := 0) (b2 := 0) (As := []) (a := r0) (st := []) lk_11_174 (by decide +kernel) rfl (dk_MO_sum d) (Nat.le_of_ble_eq_true rfl) (Or.inl ⟨11, ((((((((o_r0_11).mono hn1).mono hn2).mono hm3).mono hn4).mono hn5).mono hn15).mono hn16), rfl⟩) h ?_
            rintro _ μ17 ⟨v17, rfl, h⟩ hn17
            show G Γ m_MO_clause (d + 1) (0, 0) Q 85 [.ref r0, .int v1, .int v15, .int (w 0), .int v5] [.int v17] μ17
            refine run_ok (pc' := 134) [(.istore_n 3, 0, 0, 0), (.goto 48, 0, 0, 0)] _ _ _ _ (by decide +kernel) ?_
            show G Γ m_MO_clause (d + 1) (0, 0) Q 134 [.ref r0, .int v1, .int v15, .int v17, .int v5] [] μ17
            exact g_wk (ls' := [.ref r0, .int v1, .int v15, .int v17]) ⟨Or.inr rfl, Or.inr rfl, Or.inr rfl, Or.inr rfl, trivial⟩ h
          · replace h := h.1 hc
            show G Γ m_MO_clause (d + 1) (0, 0) Q 80 [.ref r0, .int v1, .int v15, .int (w 0), .int v5] [] μ16
            exact g_retv (by decide +kernel) rfl h
    · replace h := h.1 hc
      show G Γ m_MO_clause (d + 1) (0, 0) Q 39 [.ref r0, .int v1] [] μ4
      exact g_retv (by decide +kernel) rfl h
  · replace h := h.1 hc
    show G Γ m_MO_clause (d + 1) (0, 0) Q 14 [.ref r0, .int v1] [] μ2
    refine run_ok (pc' := 15) [(.aload_n 0, 0, 0, 0)] _ _ _ _ (by decide +kernel) ?_
    show G Γ m_MO_clause (d + 1) (0, 0) Q 15 [.ref r0, .int v1] [.ref r0] μ2
    refine g_invV (M' := m_MO_fails) (b1 := 0) (b2 := 0) (As := []) (a := r0) (st := []) lk_11_147 (by decide +kernel) rfl (dk_MO_fails d) (Nat.le_of_ble_eq_true rfl) (Or.inl ⟨11, (((o_r0_11).mono hn1).mono hn2), rfl⟩) h ?_
    rintro _ μ18 ⟨v18, rfl, h⟩ hn18
    show G Γ m_MO_clause (d + 1) (0, 0) Q 18 [.ref r0, .int v1] [.int v18] μ18
    refine run_ok (pc' := 19) [(.pop, 0, 0, 0)] _ _ _ _ (by decide +kernel) ?_
    show G Γ m_MO_clause (d + 1) (0, 0) Q 19 [.ref r0, .int v1] [] μ18
    exact g_retv (by decide +kernel) rfl h
set_option maxRecDepth 100000 in
theorem B_MO_clause_134 {Γ : XG} {d : Nat} {Q : Option Value → XM → Prop} {r0 : Nat} {x1 x2 x3 : Int32} {μ : XM} (o_r0_11 : ob μ r0 11) (h : ((xI μ r0 11 = w (-1) → ((xI μ r0 17 = w 0 → ((x1 = xI μ r0 13 → ((x2 = w 0 → Q none μ) ∧ (¬ x2 = w 0 → ∀ μ1, μ1 = sI μ r0 17 (w 1) → ∀ μ2, μ2 = sI μ1 r0 14 x3 → Q none μ2))) ∧ (¬ x1 = xI μ r0 13 → Q none μ))) ∧ (¬ xI μ r0 17 = w 0 → Q none μ))) ∧ (¬ xI μ r0 11 = w (-1) → Q none μ))) : G Γ m_MO_clause (d + 1) (0, 0) Q 134 [.ref r0, .int x1, .int x2, .int x3] [] μ := by
  refine run_ok (pc' := 139) [(.aload_n 0, 0, 0, 0), (.getfield 141, 11, 11, 0), (.iconst (-1), 0, 0, 0)] _ _ _ _ (by decide +kernel) ?_
  show _ ∧ (_)
  refine ⟨o_r0_11, ?_⟩
  show G Γ m_MO_clause (d + 1) (0, 0) Q 139 [.ref r0, .int x1, .int x2, .int x3] [.int (w (-1)), .int (xI μ r0 11)] μ
  refine g_icmp_ne (pc' := 161) (off := 22) (by decide) (by decide +kernel) (fun hc => ?_) (fun hc => ?_)
  · replace h := h.2 hc
    show G Γ m_MO_clause (d + 1) (0, 0) Q 161 [.ref r0, .int x1, .int x2, .int x3] [] μ
    exact g_retv (by decide +kernel) rfl h
  · replace h := h.1 hc
    show G Γ m_MO_clause (d + 1) (0, 0) Q 142 [.ref r0, .int x1, .int x2, .int x3] [] μ
    refine run_ok (pc' := 146) [(.aload_n 0, 0, 0, 0), (.getfield 210, 11, 17, 0)] _ _ _ _ (by decide +kernel) ?_
    show _ ∧ (_)
    refine ⟨o_r0_11, ?_⟩
    show G Γ m_MO_clause (d + 1) (0, 0) Q 146 [.ref r0, .int x1, .int x2, .int x3] [.int (xI μ r0 17)] μ
    refine g_ifz_ne (pc' := 161) (off := 15) (by decide) (by decide +kernel) (fun hc => ?_) (fun hc => ?_)
    · replace h := h.2 hc
      show G Γ m_MO_clause (d + 1) (0, 0) Q 161 [.ref r0, .int x1, .int x2, .int x3] [] μ
      exact g_retv (by decide +kernel) rfl h
    · replace h := h.1 hc
      show G Γ m_MO_clause (d + 1) (0, 0) Q 149 [.ref r0, .int x1, .int x2, .int x3] [] μ
      refine run_ok (pc' := 154) [(.iload_n 1, 0, 0, 0), (.aload_n 0, 0, 0, 0), (.getfield 214, 11, 13, 0)] _ _ _ _ (by decide +kernel) ?_
      show _ ∧ (_)
      refine ⟨o_r0_11, ?_⟩
      show G Γ m_MO_clause (d + 1) (0, 0) Q 154 [.ref r0, .int x1, .int x2, .int x3] [.int (xI μ r0 13), .int x1] μ
      refine g_icmp_ne (pc' := 161) (off := 7) (by decide) (by decide +kernel) (fun hc => ?_) (fun hc => ?_)
      · replace h := h.2 hc
        show G Γ m_MO_clause (d + 1) (0, 0) Q 161 [.ref r0, .int x1, .int x2, .int x3] [] μ
        exact g_retv (by decide +kernel) rfl h
      · replace h := h.1 hc
        show G Γ m_MO_clause (d + 1) (0, 0) Q 157 [.ref r0, .int x1, .int x2, .int x3] [] μ
        refine run_ok (pc' := 158) [(.iload_n 2, 0, 0, 0)] _ _ _ _ (by decide +kernel) ?_
        show G Γ m_MO_clause (d + 1) (0, 0) Q 158 [.ref r0, .int x1, .int x2, .int x3] [.int x2] μ
        refine g_ifz_ne (pc' := 162) (off := 4) (by decide) (by decide +kernel) (fun hc => ?_) (fun hc => ?_)
        · replace h := h.2 hc
          show G Γ m_MO_clause (d + 1) (0, 0) Q 162 [.ref r0, .int x1, .int x2, .int x3] [] μ
          refine run_ok (pc' := 167) [(.aload_n 0, 0, 0, 0), (.iconst 1, 0, 0, 0), (.putfield 210, 11, 17, 3)] _ _ _ _ (by decide +kernel) ?_
          show _ ∧ (_ ∧ (_))
          refine ⟨o_r0_11, Or.inr rfl, ?_⟩
          show G Γ m_MO_clause (d + 1) (0, 0) Q 167 [.ref r0, .int x1, .int x2, .int x3] [] (sI μ r0 17 (w 1))
          obtain ⟨μ1, em1⟩ : ∃ m : XM, m = sI μ r0 17 (w 1) := ⟨_, rfl⟩
          replace h := h μ1 em1
          have hm1 : xN μ ≤ xN μ1 := by rw [em1]; exact Nat.le_refl _
          rw [← em1]
          refine run_ok (pc' := 172) [(.aload_n 0, 0, 0, 0), (.iload_n 3, 0, 0, 0), (.putfield 217, 11, 14, 0)] _ _ _ _ (by decide +kernel) ?_
          show _ ∧ (_)
          refine ⟨((o_r0_11).mono hm1), ?_⟩
          show G Γ m_MO_clause (d + 1) (0, 0) Q 172 [.ref r0, .int x1, .int x2, .int x3] [] (sI μ1 r0 14 x3)
          obtain ⟨μ2, em2⟩ : ∃ m : XM, m = sI μ1 r0 14 x3 := ⟨_, rfl⟩
          replace h := h μ2 em2
          have hm2 : xN μ1 ≤ xN μ2 := by rw [em2]; exact Nat.le_refl _
          rw [← em2]
          exact g_retv (by decide +kernel) rfl h
        · replace h := h.1 hc
          show G Γ m_MO_clause (d + 1) (0, 0) Q 161 [.ref r0, .int x1, .int x2, .int x3] [] μ
          exact g_retv (by decide +kernel) rfl h
/-! FrostBoxModel starts([BII)V -/
set_option maxRecDepth 100000 in
theorem B_MO_starts_0 {Γ : XG} {d : Nat} {Q : Option Value → XM → Prop} {r0 r1 : Nat} {x2 x3 : Int32} {μ : XM} (o_r0_11 : ob μ r0 11) (h : ∀ μ1, μ1 = sR μ r0 5 (some r1) → ∀ μ2, μ2 = sI μ1 r0 8 x2 → ∀ μ3, μ3 = sI μ2 r0 9 x3 → ∀ μ4, μ4 = sI μ3 r0 10 (w 0) → ∀ μ5, μ5 = sI μ4 r0 11 (w (-1)) → Q none μ5) : G Γ m_MO_starts (d + 1) (0, 0) Q 0 [.ref r0, .ref r1, .int x2, .int x3] [] μ := by
  refine run_ok (pc' := 5) [(.aload_n 0, 0, 0, 0), (.aload_n 1, 0, 0, 0), (.putfield 23, 11, 5, 2)] _ _ _ _ (by decide +kernel) ?_
  show _ ∧ (_ ∧ (_))
  refine ⟨o_r0_11, rfl, ?_⟩
  show G Γ m_MO_starts (d + 1) (0, 0) Q 5 [.ref r0, .ref r1, .int x2, .int x3] [] (sR μ r0 5 (some r1))
  obtain ⟨μ1, em1⟩ : ∃ m : XM, m = sR μ r0 5 (some r1) := ⟨_, rfl⟩
  replace h := h μ1 em1
  have hm1 : xN μ ≤ xN μ1 := by rw [em1]; exact Nat.le_refl _
  rw [← em1]
  refine run_ok (pc' := 10) [(.aload_n 0, 0, 0, 0), (.iload_n 2, 0, 0, 0), (.putfield 138, 11, 8, 0)] _ _ _ _ (by decide +kernel) ?_
  show _ ∧ (_)
  refine ⟨((o_r0_11).mono hm1), ?_⟩
  show G Γ m_MO_starts (d + 1) (0, 0) Q 10 [.ref r0, .ref r1, .int x2, .int x3] [] (sI μ1 r0 8 x2)
  obtain ⟨μ2, em2⟩ : ∃ m : XM, m = sI μ1 r0 8 x2 := ⟨_, rfl⟩
  replace h := h μ2 em2
  have hm2 : xN μ1 ≤ xN μ2 := by rw [em2]; exact Nat.le_refl _
  rw [← em2]
  refine run_ok (pc' := 15) [(.aload_n 0, 0, 0, 0), (.iload_n 3, 0, 0, 0), (.putfield 135, 11, 9, 0)] _ _ _ _ (by decide +kernel) ?_
  show _ ∧ (_)
  refine ⟨(((o_r0_11).mono hm1).mono hm2), ?_⟩
  show G Γ m_MO_starts (d + 1) (0, 0) Q 15 [.ref r0, .ref r1, .int x2, .int x3] [] (sI μ2 r0 9 x3)
  obtain ⟨μ3, em3⟩ : ∃ m : XM, m = sI μ2 r0 9 x3 := ⟨_, rfl⟩
  replace h := h μ3 em3
  have hm3 : xN μ2 ≤ xN μ3 := by rw [em3]; exact Nat.le_refl _
  rw [← em3]
  refine run_ok (pc' := 20) [(.aload_n 0, 0, 0, 0), (.iconst 0, 0, 0, 0), (.putfield 132, 11, 10, 0)] _ _ _ _ (by decide +kernel) ?_
  show _ ∧ (_)
  refine ⟨((((o_r0_11).mono hm1).mono hm2).mono hm3), ?_⟩
  show G Γ m_MO_starts (d + 1) (0, 0) Q 20 [.ref r0, .ref r1, .int x2, .int x3] [] (sI μ3 r0 10 (w 0))
  obtain ⟨μ4, em4⟩ : ∃ m : XM, m = sI μ3 r0 10 (w 0) := ⟨_, rfl⟩
  replace h := h μ4 em4
  have hm4 : xN μ3 ≤ xN μ4 := by rw [em4]; exact Nat.le_refl _
  rw [← em4]
  refine run_ok (pc' := 25) [(.aload_n 0, 0, 0, 0), (.iconst (-1), 0, 0, 0), (.putfield 141, 11, 11, 0)] _ _ _ _ (by decide +kernel) ?_
  show _ ∧ (_)
  refine ⟨(((((o_r0_11).mono hm1).mono hm2).mono hm3).mono hm4), ?_⟩
  show G Γ m_MO_starts (d + 1) (0, 0) Q 25 [.ref r0, .ref r1, .int x2, .int x3] [] (sI μ4 r0 11 (w (-1)))
  obtain ⟨μ5, em5⟩ : ∃ m : XM, m = sI μ4 r0 11 (w (-1)) := ⟨_, rfl⟩
  replace h := h μ5 em5
  have hm5 : xN μ4 ≤ xN μ5 := by rw [em5]; exact Nat.le_refl _
  rw [← em5]
  exact g_retv (by decide +kernel) rfl h
/-! FrostBoxModel goThrough([BII)V -/
set_option maxRecDepth 100000 in
theorem lk_11_224 : LkV 11 224 m_MO_clause 0 := ⟨lc_MO_clause, lwG_in (List.mem_of_getElem? (i := 1514) rfl) rfl, lwG_in (List.mem_of_getElem? (i := 1516) rfl) rfl, lwG_in (List.mem_of_getElem? (i := 62) rfl) rfl⟩
set_option maxRecDepth 100000 in
theorem lk_11_220 : LkV 11 220 m_MO_starts 3 := ⟨lc_MO_starts, lwG_in (List.mem_of_getElem? (i := 1408) rfl) rfl, lwG_in (List.mem_of_getElem? (i := 1410) rfl) rfl, lwG_in (List.mem_of_getElem? (i := 52) rfl) rfl⟩
set_option maxRecDepth 100000 in
theorem B_MO_goThrough_0 {Γ : XG} {d : Nat} {Q : Option Value → XM → Prop} {r0 r1 : Nat} {x2 x3 : Int32} {μ : XM} (o_r0_11 : ob μ r0 11) (h : Call Γ m_MO_starts d [.ref r0, .ref r1, .int x2, .int x3] μ (KV (fun μ1 => ∀ μ2, μ2 = sI μ1 r0 13 (w 121) → ∀ μ3, μ3 = sI μ2 r0 12 (w 0) → ∀ μ4, μ4 = sI μ3 r0 17 (w 0) → ∀ μ5, μ5 = sI μ4 r0 14 (w 0) → Call Γ m_MO_clause d [.ref r0] μ5 (KV (fun μ6 => G Γ m_MO_goThrough (d + 1) (0, 0) Q 32 [.ref r0] [] μ6))))) : G Γ m_MO_goThrough (d + 1) (0, 0) Q 0 [.ref r0, .ref r1, .int x2, .int x3] [] μ := by
  refine run_ok (pc' := 4) [(.aload_n 0, 0, 0, 0), (.aload_n 1, 0, 0, 0), (.iload_n 2, 0, 0, 0), (.iload_n 3, 0, 0, 0)] _ _ _ _ (by decide +kernel) ?_
  show G Γ m_MO_goThrough (d + 1) (0, 0) Q 4 [.ref r0, .ref r1, .int x2, .int x3] [.int x3, .int x2, .ref r1, .ref r0] μ
  refine g_invV (M' := m_MO_starts) (b1 := 0) (b2 := 0) (As := [.ref r1, .int x2, .int x3]) (a := r0) (st := []) lk_11_220 (by decide +kernel) rfl (dk_MO_starts d) (Nat.le_of_ble_eq_true rfl) (Or.inl ⟨11, o_r0_11, rfl⟩) h ?_
  rintro _ μ1 ⟨rfl, h⟩ hn1
  show G Γ m_MO_goThrough (d + 1) (0, 0) Q 7 [.ref r0, .ref r1, .int x2, .int x3] [] μ1
  refine run_ok (pc' := 13) [(.aload_n 0, 0, 0, 0), (.bipush 121, 0, 0, 0), (.putfield 214, 11, 13, 0)] _ _ _ _ (by decide +kernel) ?_
  show _ ∧ (_)
  refine ⟨((o_r0_11).mono hn1), ?_⟩
  show G Γ m_MO_goThrough (d + 1) (0, 0) Q 13 [.ref r0, .ref r1, .int x2, .int x3] [] (sI μ1 r0 13 (w 121))
  obtain ⟨μ2, em2⟩ : ∃ m : XM, m = sI μ1 r0 13 (w 121) := ⟨_, rfl⟩
  replace h := h μ2 em2
  have hm2 : xN μ1 ≤ xN μ2 := by rw [em2]; exact Nat.le_refl _
  rw [← em2]
  refine run_ok (pc' := 18) [(.aload_n 0, 0, 0, 0), (.iconst 0, 0, 0, 0), (.putfield 144, 11, 12, 0)] _ _ _ _ (by decide +kernel) ?_
  show _ ∧ (_)
  refine ⟨(((o_r0_11).mono hn1).mono hm2), ?_⟩
  show G Γ m_MO_goThrough (d + 1) (0, 0) Q 18 [.ref r0, .ref r1, .int x2, .int x3] [] (sI μ2 r0 12 (w 0))
  obtain ⟨μ3, em3⟩ : ∃ m : XM, m = sI μ2 r0 12 (w 0) := ⟨_, rfl⟩
  replace h := h μ3 em3
  have hm3 : xN μ2 ≤ xN μ3 := by rw [em3]; exact Nat.le_refl _
  rw [← em3]
  refine run_ok (pc' := 23) [(.aload_n 0, 0, 0, 0), (.iconst 0, 0, 0, 0), (.putfield 210, 11, 17, 3)] _ _ _ _ (by decide +kernel) ?_
  show _ ∧ (_ ∧ (_))
  refine ⟨((((o_r0_11).mono hn1).mono hm2).mono hm3), Or.inl rfl, ?_⟩
  show G Γ m_MO_goThrough (d + 1) (0, 0) Q 23 [.ref r0, .ref r1, .int x2, .int x3] [] (sI μ3 r0 17 (w 0))
  obtain ⟨μ4, em4⟩ : ∃ m : XM, m = sI μ3 r0 17 (w 0) := ⟨_, rfl⟩
  replace h := h μ4 em4
  have hm4 : xN μ3 ≤ xN μ4 := by rw [em4]; exact Nat.le_refl _
  rw [← em4]
  refine run_ok (pc' := 28) [(.aload_n 0, 0, 0, 0), (.iconst 0, 0, 0, 0), (.putfield 217, 11, 14, 0)] _ _ _ _ (by decide +kernel) ?_
  show _ ∧ (_)
  refine ⟨(((((o_r0_11).mono hn1).mono hm2).mono hm3).mono hm4), ?_⟩
  show G Γ m_MO_goThrough (d + 1) (0, 0) Q 28 [.ref r0, .ref r1, .int x2, .int x3] [] (sI μ4 r0 14 (w 0))
  obtain ⟨μ5, em5⟩ : ∃ m : XM, m = sI μ4 r0 14 (w 0) := ⟨_, rfl⟩
  replace h := h μ5 em5
  have hm5 : xN μ4 ≤ xN μ5 := by rw [em5]; exact Nat.le_refl _
  rw [← em5]
  refine run_ok (pc' := 29) [(.aload_n 0, 0, 0, 0)] _ _ _ _ (by decide +kernel) ?_
  show G Γ m_MO_goThrough (d + 1) (0, 0) Q 29 [.ref r0, .ref r1, .int x2, .int x3] [.ref r0] μ5
  refine g_invV (M' := m_MO_clause) (b1 := 0) (b2 := 0) (As := []) (a := r0) (st := []) lk_11_224 (by decide +kernel) rfl (dk_MO_clause d) (Nat.le_of_ble_eq_true rfl) (Or.inl ⟨11, ((((((o_r0_11).mono hn1).mono hm2).mono hm3).mono hm4).mono hm5), rfl⟩) h ?_
  rintro _ μ6 ⟨rfl, h⟩ hn6
  show G Γ m_MO_goThrough (d + 1) (0, 0) Q 32 [.ref r0, .ref r1, .int x2, .int x3] [] μ6
  exact g_wk (ls' := [.ref r0]) ⟨Or.inr rfl, trivial⟩ h
set_option maxRecDepth 100000 in
theorem B_MO_goThrough_32 {Γ : XG} {d : Nat} {Q : Option Value → XM → Prop} {r0 : Nat} {μ : XM} (o_r0_11 : ob μ r0 11) (h : ((xI μ r0 11 = w (-1) → Call Γ m_MO_look d [.ref r0] μ (KI (fun v3 μ3 => ((v3 = w 59 → ∀ μ6, μ6 = sI μ3 r0 10 ((xI μ3 r0 10) + (w 1)) → Call Γ m_MO_clause d [.ref r0] μ6 (KV (fun μ7 => G Γ m_MO_goThrough (d + 1) (0, 0) Q 32 [.ref r0] [] μ7))) ∧ (¬ v3 = w 59 → ((xI μ3 r0 11 = w (-1) → Call Γ m_MO_look d [.ref r0] μ3 (KI (fun v4 μ4 => ((v4 = w (-1) → Q none μ4) ∧ (¬ v4 = w (-1) → Call Γ m_MO_fails d [.ref r0] μ4 (KI (fun v5 μ5 => Q none μ5))))))) ∧ (¬ xI μ3 r0 11 = w (-1) → Q none μ3))))))) ∧ (¬ xI μ r0 11 = w (-1) → ((xI μ r0 11 = w (-1) → Call Γ m_MO_look d [.ref r0] μ (KI (fun v1 μ1 => ((v1 = w (-1) → Q none μ1) ∧ (¬ v1 = w (-1) → Call Γ m_MO_fails d [.ref r0] μ1 (KI (fun v2 μ2 => Q none μ2))))))) ∧ (¬ xI μ r0 11 = w (-1) → Q none μ))))) : G Γ m_MO_goThrough (d + 1) (0, 0) Q 32 [.ref r0] [] μ := by
  refine run_ok (pc' := 37) [(.aload_n 0, 0, 0, 0), (.getfield 141, 11, 11, 0), (.iconst (-1), 0, 0, 0)] _ _ _ _ (by decide +kernel) ?_
  show _ ∧ (_)
  refine ⟨o_r0_11, ?_⟩
  show G Γ m_MO_goThrough (d + 1) (0, 0) Q 37 [.ref r0] [.int (w (-1)), .int (xI μ r0 11)] μ
  refine g_icmp_ne (pc' := 66) (off := 29) (by decide) (by decide +kernel) (fun hc => ?_) (fun hc => ?_)
  · replace h := h.2 hc
    show G Γ m_MO_goThrough (d + 1) (0, 0) Q 66 [.ref r0] [] μ
    refine run_ok (pc' := 71) [(.aload_n 0, 0, 0, 0), (.getfield 141, 11, 11, 0), (.iconst (-1), 0, 0, 0)] _ _ _ _ (by decide +kernel) ?_
    show _ ∧ (_)
    refine ⟨o_r0_11, ?_⟩
    show G Γ m_MO_goThrough (d + 1) (0, 0) Q 71 [.ref r0] [.int (w (-1)), .int (xI μ r0 11)] μ
    refine g_icmp_ne (pc' := 87) (off := 16) (by decide) (by decide +kernel) (fun hc => ?_) (fun hc => ?_)
    · replace h := h.2 hc
      show G Γ m_MO_goThrough (d + 1) (0, 0) Q 87 [.ref r0] [] μ
      exact g_retv (by decide +kernel) rfl h
    · replace h := h.1 hc
      show G Γ m_MO_goThrough (d + 1) (0, 0) Q 74 [.ref r0] [] μ
      refine run_ok (pc' := 75) [(.aload_n 0, 0, 0, 0)] _ _ _ _ (by decide +kernel) ?_
      show G Γ m_MO_goThrough (d + 1) (0, 0) Q 75 [.ref r0] [.ref r0] μ
      refine g_invV (M' := m_MO_look) (b1 := 0) (b2 := 0) (As := []) (a := r0) (st := []) lk_11_151 (by decide +kernel) rfl (dk_MO_look d) (Nat.le_of_ble_eq_true rfl) (Or.inl ⟨11, o_r0_11, rfl⟩) h ?_
      rintro _ μ1 ⟨v1, rfl, h⟩ hn1
      show G Γ m_MO_goThrough (d + 1) (0, 0) Q 78 [.ref r0] [.int v1] μ1
      refine run_ok (pc' := 79) [(.iconst (-1), 0, 0, 0)] _ _ _ _ (by decide +kernel) ?_
      show G Γ m_MO_goThrough (d + 1) (0, 0) Q 79 [.ref r0] [.int (w (-1)), .int v1] μ1
      refine g_icmp_eq (pc' := 87) (off := 8) (by decide) (by decide +kernel) (fun hc => ?_) (fun hc => ?_)
      · replace h := h.1 hc
        show G Γ m_MO_goThrough (d + 1) (0, 0) Q 87 [.ref r0] [] μ1
        exact g_retv (by decide +kernel) rfl h
      · replace h := h.2 hc
        show G Γ m_MO_goThrough (d + 1) (0, 0) Q 82 [.ref r0] [] μ1
        refine run_ok (pc' := 83) [(.aload_n 0, 0, 0, 0)] _ _ _ _ (by decide +kernel) ?_
        show G Γ m_MO_goThrough (d + 1) (0, 0) Q 83 [.ref r0] [.ref r0] μ1
        refine g_invV (M' := m_MO_fails) (b1 := 0) (b2 := 0) (As := []) (a := r0) (st := []) lk_11_147 (by decide +kernel) rfl (dk_MO_fails d) (Nat.le_of_ble_eq_true rfl) (Or.inl ⟨11, ((o_r0_11).mono hn1), rfl⟩) h ?_
        rintro _ μ2 ⟨v2, rfl, h⟩ hn2
        show G Γ m_MO_goThrough (d + 1) (0, 0) Q 86 [.ref r0] [.int v2] μ2
        refine run_ok (pc' := 87) [(.pop, 0, 0, 0)] _ _ _ _ (by decide +kernel) ?_
        show G Γ m_MO_goThrough (d + 1) (0, 0) Q 87 [.ref r0] [] μ2
        exact g_retv (by decide +kernel) rfl h
  · replace h := h.1 hc
    show G Γ m_MO_goThrough (d + 1) (0, 0) Q 40 [.ref r0] [] μ
    refine run_ok (pc' := 41) [(.aload_n 0, 0, 0, 0)] _ _ _ _ (by decide +kernel) ?_
    show G Γ m_MO_goThrough (d + 1) (0, 0) Q 41 [.ref r0] [.ref r0] μ
    refine g_invV (M' := m_MO_look) (b1 := 0) (b2 := 0) (As := []) (a := r0) (st := []) lk_11_151 (by decide +kernel) rfl (dk_MO_look d) (Nat.le_of_ble_eq_true rfl) (Or.inl ⟨11, o_r0_11, rfl⟩) h ?_
    rintro _ μ3 ⟨v3, rfl, h⟩ hn3
    show G Γ m_MO_goThrough (d + 1) (0, 0) Q 44 [.ref r0] [.int v3] μ3
    refine run_ok (pc' := 46) [(.bipush 59, 0, 0, 0)] _ _ _ _ (by decide +kernel) ?_
    show G Γ m_MO_goThrough (d + 1) (0, 0) Q 46 [.ref r0] [.int (w 59), .int v3] μ3
    refine g_icmp_ne (pc' := 66) (off := 20) (by decide) (by decide +kernel) (fun hc => ?_) (fun hc => ?_)
    · replace h := h.2 hc
      show G Γ m_MO_goThrough (d + 1) (0, 0) Q 66 [.ref r0] [] μ3
      refine run_ok (pc' := 71) [(.aload_n 0, 0, 0, 0), (.getfield 141, 11, 11, 0), (.iconst (-1), 0, 0, 0)] _ _ _ _ (by decide +kernel) ?_
      show _ ∧ (_)
      refine ⟨((o_r0_11).mono hn3), ?_⟩
      show G Γ m_MO_goThrough (d + 1) (0, 0) Q 71 [.ref r0] [.int (w (-1)), .int (xI μ3 r0 11)] μ3
      refine g_icmp_ne (pc' := 87) (off := 16) (by decide) (by decide +kernel) (fun hc => ?_) (fun hc => ?_)
      · replace h := h.2 hc
        show G Γ m_MO_goThrough (d + 1) (0, 0) Q 87 [.ref r0] [] μ3
        exact g_retv (by decide +kernel) rfl h
      · replace h := h.1 hc
        show G Γ m_MO_goThrough (d + 1) (0, 0) Q 74 [.ref r0] [] μ3
        refine run_ok (pc' := 75) [(.aload_n 0, 0, 0, 0)] _ _ _ _ (by decide +kernel) ?_
        show G Γ m_MO_goThrough (d + 1) (0, 0) Q 75 [.ref r0] [.ref r0] μ3
        refine g_invV (M' := m_MO_look) (b1 := 0) (b2 := 0) (As := []) (a := r0) (st := []) lk_11_151 (by decide +kernel) rfl (dk_MO_look d) (Nat.le_of_ble_eq_true rfl) (Or.inl ⟨11, ((o_r0_11).mono hn3), rfl⟩) h ?_
        rintro _ μ4 ⟨v4, rfl, h⟩ hn4
        show G Γ m_MO_goThrough (d + 1) (0, 0) Q 78 [.ref r0] [.int v4] μ4
        refine run_ok (pc' := 79) [(.iconst (-1), 0, 0, 0)] _ _ _ _ (by decide +kernel) ?_
        show G Γ m_MO_goThrough (d + 1) (0, 0) Q 79 [.ref r0] [.int (w (-1)), .int v4] μ4
        refine g_icmp_eq (pc' := 87) (off := 8) (by decide) (by decide +kernel) (fun hc => ?_) (fun hc => ?_)
        · replace h := h.1 hc
          show G Γ m_MO_goThrough (d + 1) (0, 0) Q 87 [.ref r0] [] μ4
          exact g_retv (by decide +kernel) rfl h
        · replace h := h.2 hc
          show G Γ m_MO_goThrough (d + 1) (0, 0) Q 82 [.ref r0] [] μ4
          refine run_ok (pc' := 83) [(.aload_n 0, 0, 0, 0)] _ _ _ _ (by decide +kernel) ?_
          show G Γ m_MO_goThrough (d + 1) (0, 0) Q 83 [.ref r0] [.ref r0] μ4
          refine g_invV (M' := m_MO_fails) (b1 := 0) (b2 := 0) (As := []) (a := r0) (st := []) lk_11_147 (by decide +kernel) rfl (dk_MO_fails d) (Nat.le_of_ble_eq_true rfl) (Or.inl ⟨11, (((o_r0_11).mono hn3).mono hn4), rfl⟩) h ?_
          rintro _ μ5 ⟨v5, rfl, h⟩ hn5
          show G Γ m_MO_goThrough (d + 1) (0, 0) Q 86 [.ref r0] [.int v5] μ5
          refine run_ok (pc' := 87) [(.pop, 0, 0, 0)] _ _ _ _ (by decide +kernel) ?_
          show G Γ m_MO_goThrough (d + 1) (0, 0) Q 87 [.ref r0] [] μ5
          exact g_retv (by decide +kernel) rfl h
    · replace h := h.1 hc
      show G Γ m_MO_goThrough (d + 1) (0, 0) Q 49 [.ref r0] [] μ3
      refine run_ok (pc' := 59) [(.aload_n 0, 0, 0, 0), (.dup, 0, 0, 0), (.getfield 132, 11, 10, 0), (.iconst 1, 0, 0, 0), (.iadd, 0, 0, 0), (.putfield 132, 11, 10, 0)] _ _ _ _ (by decide +kernel) ?_
      show _ ∧ (_ ∧ (_))
      refine ⟨((o_r0_11).mono hn3), ((o_r0_11).mono hn3), ?_⟩
      show G Γ m_MO_goThrough (d + 1) (0, 0) Q 59 [.ref r0] [] (sI μ3 r0 10 ((xI μ3 r0 10) + (w 1)))
      obtain ⟨μ6, em6⟩ : ∃ m : XM, m = sI μ3 r0 10 ((xI μ3 r0 10) + (w 1)) := ⟨_, rfl⟩
      replace h := h μ6 em6
      have hm6 : xN μ3 ≤ xN μ6 := by rw [em6]; exact Nat.le_refl _
      rw [← em6]
      refine run_ok (pc' := 60) [(.aload_n 0, 0, 0, 0)] _ _ _ _ (by decide +kernel) ?_
      show G Γ m_MO_goThrough (d + 1) (0, 0) Q 60 [.ref r0] [.ref r0] μ6
      refine g_invV (M' := m_MO_clause) (b1 := 0) (b2 := 0) (As := []) (a := r0) (st := []) lk_11_224 (by decide +kernel) rfl (dk_MO_clause d) (Nat.le_of_ble_eq_true rfl) (Or.inl ⟨11, (((o_r0_11).mono hn3).mono hm6), rfl⟩) h ?_
      rintro _ μ7 ⟨rfl, h⟩ hn7
      show G Γ m_MO_goThrough (d + 1) (0, 0) Q 63 [.ref r0] [] μ7
      refine run_ok (pc' := 32) [(.goto (-31), 0, 0, 0)] _ _ _ _ (by decide +kernel) ?_
      show G Γ m_MO_goThrough (d + 1) (0, 0) Q 32 [.ref r0] [] μ7
      exact h
/-! FrostBoxModel here()I -/
set_option maxRecDepth 100000 in
theorem B_MO_here_0 {Γ : XG} {d : Nat} {Q : Option Value → XM → Prop} {r0 r0_5 : Nat} {μ : XM} (o_r0_11 : ob μ r0 11) (e_r0_5 : xR μ r0 5 = some r0_5) (h : ((xI μ r0 10 < xI μ r0 9 → inb μ 1 r0_5 ((xI μ r0 8) + (xI μ r0 10)) ∧ Q (some (.int ((xI μ r0_5 ((xI μ r0 8) + (xI μ r0 10)).toNatClampNeg) &&& (w 255)))) μ) ∧ (¬ xI μ r0 10 < xI μ r0 9 → Q (some (.int (w (-1)))) μ))) : G Γ m_MO_here (d + 1) (0, 0) Q 0 [.ref r0] [] μ := by
  refine run_ok (pc' := 8) [(.aload_n 0, 0, 0, 0), (.getfield 132, 11, 10, 0), (.aload_n 0, 0, 0, 0), (.getfield 135, 11, 9, 0)] _ _ _ _ (by decide +kernel) ?_
  show _ ∧ (_ ∧ (_))
  refine ⟨o_r0_11, o_r0_11, ?_⟩
  show G Γ m_MO_here (d + 1) (0, 0) Q 8 [.ref r0] [.int (xI μ r0 9), .int (xI μ r0 10)] μ
  refine g_icmp_ge (pc' := 32) (off := 24) (by decide) (by decide +kernel) (fun hc => ?_) (fun hc => ?_)
  · replace h := h.2 hc
    show G Γ m_MO_here (d + 1) (0, 0) Q 32 [.ref r0] [] μ
    refine run_ok (pc' := 33) [(.iconst (-1), 0, 0, 0)] _ _ _ _ (by decide +kernel) ?_
    show G Γ m_MO_here (d + 1) (0, 0) Q 33 [.ref r0] [.int (w (-1))] μ
    exact g_reti (by decide +kernel) rfl h
  · replace h := h.1 hc
    show G Γ m_MO_here (d + 1) (0, 0) Q 11 [.ref r0] [] μ
    obtain ⟨ib1, h⟩ := h
    refine run_ok (pc' := 33) [(.aload_n 0, 0, 0, 0), (.getfield 23, 11, 5, 2), (.aload_n 0, 0, 0, 0), (.getfield 138, 11, 8, 0), (.aload_n 0, 0, 0, 0), (.getfield 132, 11, 10, 0), (.iadd, 0, 0, 0), (.baload, 1, 0, 0), (.sipush 255, 0, 0, 0), (.iand, 0, 0, 0), (.goto 4, 0, 0, 0)] _ _ _ _ (by decide +kernel) ?_
    show _ ∧ (∃ _, _ ∧ (_ ∧ (_ ∧ (_ ∧ (_ ∧ (_))))))
    refine ⟨o_r0_11, r0_5, e_r0_5, o_r0_11, o_r0_11, ib1, Or.inl rfl, ?_⟩
    show G Γ m_MO_here (d + 1) (0, 0) Q 33 [.ref r0] [.int ((xI μ r0_5 ((xI μ r0 8) + (xI μ r0 10)).toNatClampNeg) &&& (w 255))] μ
    exact g_reti (by decide +kernel) rfl h
/-! FrostBoxModel spotOf(Ljava/lang/String;I)I -/
set_option maxRecDepth 100000 in
theorem B_MO_spotOf_0 {Γ : XG} {d : Nat} {Q : Option Value → XM → Prop} {r0 : Nat} {x1 : Int32} {μ : XM}  (h : G Γ m_MO_spotOf (d + 1) (0, 0) Q 2 [.ref r0, .int x1, .int (w 0)] [] μ) : G Γ m_MO_spotOf (d + 1) (0, 0) Q 0 [.ref r0, .int x1] [] μ := by
  refine run_ok (pc' := 2) [(.iconst 0, 0, 0, 0), (.istore_n 2, 0, 0, 0)] _ _ _ _ (by decide +kernel) ?_
  show G Γ m_MO_spotOf (d + 1) (0, 0) Q 2 [.ref r0, .int x1, .int (w 0)] [] μ
  exact h
set_option maxRecDepth 100000 in
theorem B_MO_spotOf_2 {Γ : XG} {d : Nat} {Q : Option Value → XM → Prop} {r0 : Nat} {x1 x2 : Int32} {μ : XM}  (h : rcS r0 ∧ Call Γ m_St_length d [.ref r0] μ (KI (fun v1 μ1 => ((x2 < v1 → rcS r0 ∧ Call Γ m_St_charAt d [.ref r0, .int x2] μ1 (KI (fun v3 μ3 => ((v3 = x1 → Q (some (.int x2)) μ3) ∧ (¬ v3 = x1 → G Γ m_MO_spotOf (d + 1) (0, 0) Q 2 [.ref r0, .int x1, .int (x2 + w 1)] [] μ3))))) ∧ (¬ x2 < v1 → Q (some (.int (w (-1)))) μ1))))) : G Γ m_MO_spotOf (d + 1) (0, 0) Q 2 [.ref r0, .int x1, .int x2] [] μ := by
  refine run_ok (pc' := 4) [(.iload_n 2, 0, 0, 0), (.aload_n 0, 0, 0, 0)] _ _ _ _ (by decide +kernel) ?_
  show G Γ m_MO_spotOf (d + 1) (0, 0) Q 4 [.ref r0, .int x1, .int x2] [.ref r0, .int x2] μ
  obtain ⟨sr2, h⟩ := h
  refine g_invV (M' := m_St_length) (b1 := 0) (b2 := 0) (As := []) (a := r0) (st := [.int x2]) lk_11_112 (by decide +kernel) rfl (dk_St_length d) (Nat.le_of_ble_eq_true rfl) (rcS_ok sr2 rfl) h ?_
  rintro _ μ1 ⟨v1, rfl, h⟩ hn1
  show G Γ m_MO_spotOf (d + 1) (0, 0) Q 7 [.ref r0, .int x1, .int x2] [.int v1, .int x2] μ1
  refine g_icmp_ge (pc' := 27) (off := 20) (by decide) (by decide +kernel) (fun hc => ?_) (fun hc => ?_)
  · replace h := h.2 hc
    show G Γ m_MO_spotOf (d + 1) (0, 0) Q 27 [.ref r0, .int x1, .int x2] [] μ1
    refine run_ok (pc' := 28) [(.iconst (-1), 0, 0, 0)] _ _ _ _ (by decide +kernel) ?_
    show G Γ m_MO_spotOf (d + 1) (0, 0) Q 28 [.ref r0, .int x1, .int x2] [.int (w (-1))] μ1
    exact g_reti (by decide +kernel) rfl h
  · replace h := h.1 hc
    show G Γ m_MO_spotOf (d + 1) (0, 0) Q 10 [.ref r0, .int x1, .int x2] [] μ1
    refine run_ok (pc' := 12) [(.aload_n 0, 0, 0, 0), (.iload_n 2, 0, 0, 0)] _ _ _ _ (by decide +kernel) ?_
    show G Γ m_MO_spotOf (d + 1) (0, 0) Q 12 [.ref r0, .int x1, .int x2] [.int x2, .ref r0] μ1
    obtain ⟨sr4, h⟩ := h
    refine g_invV (M' := m_St_charAt) (b1 := 0) (b2 := 0) (As := [.int x2]) (a := r0) (st := []) lk_11_118 (by decide +kernel) rfl (dk_St_charAt d) (Nat.le_of_ble_eq_true rfl) (rcS_ok sr4 rfl) h ?_
    rintro _ μ3 ⟨v3, rfl, h⟩ hn3
    show G Γ m_MO_spotOf (d + 1) (0, 0) Q 15 [.ref r0, .int x1, .int x2] [.int v3] μ3
    refine run_ok (pc' := 16) [(.iload_n 1, 0, 0, 0)] _ _ _ _ (by decide +kernel) ?_
    show G Γ m_MO_spotOf (d + 1) (0, 0) Q 16 [.ref r0, .int x1, .int x2] [.int x1, .int v3] μ3
    refine g_icmp_ne (pc' := 21) (off := 5) (by decide) (by decide +kernel) (fun hc => ?_) (fun hc => ?_)
    · replace h := h.2 hc
      show G Γ m_MO_spotOf (d + 1) (0, 0) Q 21 [.ref r0, .int x1, .int x2] [] μ3
      refine run_ok (pc' := 2) [(.iinc 2 1, 0, 0, 0), (.goto (-22), 0, 0, 0)] _ _ _ _ (by decide +kernel) ?_
      show G Γ m_MO_spotOf (d + 1) (0, 0) Q 2 [.ref r0, .int x1, .int (x2 + w 1)] [] μ3
      exact h
    · replace h := h.1 hc
      show G Γ m_MO_spotOf (d + 1) (0, 0) Q 19 [.ref r0, .int x1, .int x2] [] μ3
      refine run_ok (pc' := 20) [(.iload_n 2, 0, 0, 0)] _ _ _ _ (by decide +kernel) ?_
      show G Γ m_MO_spotOf (d + 1) (0, 0) Q 20 [.ref r0, .int x1, .int x2] [.int x2] μ3
      exact g_reti (by decide +kernel) rfl h
/-! FrostBoxModel number(II)I -/
set_option maxRecDepth 100000 in
theorem lk_11_230 : LkS 11 230 m_MO_isIn 3 := ⟨lc_MO_isIn, lwG_in (List.mem_of_getElem? (i := 1401) rfl) rfl, lwG_in (List.mem_of_getElem? (i := 1402) rfl) rfl⟩
set_option maxRecDepth 100000 in
theorem lk_11_227 : LkV 11 227 m_MO_here 0 := ⟨lc_MO_here, lwG_in (List.mem_of_getElem? (i := 1500) rfl) rfl, lwG_in (List.mem_of_getElem? (i := 1502) rfl) rfl, lwG_in (List.mem_of_getElem? (i := 59) rfl) rfl⟩
set_option maxRecDepth 100000 in
theorem B_MO_number_0 {Γ : XG} {d : Nat} {Q : Option Value → XM → Prop} {r0 : Nat} {x1 x2 : Int32} {μ : XM} (o_r0_11 : ob μ r0 11) (h : Call Γ m_MO_look d [.ref r0] μ (KI (fun v1 μ1 => Call Γ m_MO_isDigit d [.ref r0] μ1 (KI (fun v2 μ2 => ((v2 = w 0 → Call Γ m_MO_fails d [.ref r0] μ2 (KI (fun v17 μ17 => Q (some (.int (w 0))) μ17))) ∧ (¬ v2 = w 0 → ∀ μ3, μ3 = sI μ2 r0 10 ((xI μ2 r0 10) + (w 1)) → Call Γ m_MO_isDigit d [.ref r0] μ3 (KI (fun v4 μ4 => ((v4 = w 0 → Call Γ m_MO_isDigit d [.ref r0] μ4 (KI (fun v5 μ5 => ((v5 = w 0 → Call Γ m_MO_isIn d [.long ((v1 - (w 48)).toInt64), .long (x1.toInt64), .long (x2.toInt64)] μ5 (KI (fun v6 μ6 => ((v6 = w 0 → ∀ μ7, μ7 = sI μ6 r0 10 ((xI μ6 r0 10) - (w 1)) → Call Γ m_MO_fails d [.ref r0] μ7 (KI (fun v8 μ8 => Q (some (.int (v1 - (w 48)))) μ8))) ∧ (¬ v6 = w 0 → Q (some (.int (v1 - (w 48)))) μ6))))) ∧ (¬ v5 = w 0 → Call Γ m_MO_fails d [.ref r0] μ5 (KI (fun v9 μ9 => Q (some (.int (w 0))) μ9))))))) ∧ (¬ v4 = w 0 → Call Γ m_MO_here d [.ref r0] μ4 (KI (fun v10 μ10 => ∀ μ11, μ11 = sI μ10 r0 10 ((xI μ10 r0 10) + (w 1)) → Call Γ m_MO_isDigit d [.ref r0] μ11 (KI (fun v12 μ12 => ((v12 = w 0 → Call Γ m_MO_isIn d [.long (((((w 10) * (v1 - (w 48))) + v10) - (w 48)).toInt64), .long (x1.toInt64), .long (x2.toInt64)] μ12 (KI (fun v13 μ13 => ((v13 = w 0 → ∀ μ14, μ14 = sI μ13 r0 10 ((xI μ13 r0 10) - (w 1)) → Call Γ m_MO_fails d [.ref r0] μ14 (KI (fun v15 μ15 => Q (some (.int ((((w 10) * (v1 - (w 48))) + v10) - (w 48)))) μ15))) ∧ (¬ v13 = w 0 → Q (some (.int ((((w 10) * (v1 - (w 48))) + v10) - (w 48)))) μ13))))) ∧ (¬ v12 = w 0 → Call Γ m_MO_fails d [.ref r0] μ12 (KI (fun v16 μ16 => Q (some (.int (w 0))) μ16))))))))))))))))))) : G Γ m_MO_number (d + 1) (0, 0) Q 0 [.ref r0, .int x1, .int x2] [] μ := by
  refine run_ok (pc' := 1) [(.aload_n 0, 0, 0, 0)] _ _ _ _ (by decide +kernel) ?_
  show G Γ m_MO_number (d + 1) (0, 0) Q 1 [.ref r0, .int x1, .int x2] [.ref r0] μ
  refine g_invV (M' := m_MO_look) (b1 := 0) (b2 := 0) (As := []) (a := r0) (st := []) lk_11_151 (by decide +kernel) rfl (dk_MO_look d) (Nat.le_of_ble_eq_true rfl) (Or.inl ⟨11, o_r0_11, rfl⟩) h ?_
  rintro _ μ1 ⟨v1, rfl, h⟩ hn1
  show G Γ m_MO_number (d + 1) (0, 0) Q 4 [.ref r0, .int x1, .int x2] [.int v1] μ1
  refine run_ok (pc' := 6) [(.istore_n 3, 0, 0, 0), (.aload_n 0, 0, 0, 0)] _ _ _ _ (by decide +kernel) ?_
  show G Γ m_MO_number (d + 1) (0, 0) Q 6 [.ref r0, .int x1, .int x2, .int v1] [.ref r0] μ1
  refine g_invV (M' := m_MO_isDigit) (b1 := 0) (b2 := 0) (As := []) (a := r0) (st := []) lk_11_181 (by decide +kernel) rfl (dk_MO_isDigit d) (Nat.le_of_ble_eq_true rfl) (Or.inl ⟨11, ((o_r0_11).mono hn1), rfl⟩) h ?_
  rintro _ μ2 ⟨v2, rfl, h⟩ hn2
  show G Γ m_MO_number (d + 1) (0, 0) Q 9 [.ref r0, .int x1, .int x2, .int v1] [.int v2] μ2
  refine g_ifz_ne (pc' := 19) (off := 10) (by decide) (by decide +kernel) (fun hc => ?_) (fun hc => ?_)
  · replace h := h.2 hc
    show G Γ m_MO_number (d + 1) (0, 0) Q 19 [.ref r0, .int x1, .int x2, .int v1] [] μ2
    refine run_ok (pc' := 35) [(.iload_n 3, 0, 0, 0), (.bipush 48, 0, 0, 0), (.isub, 0, 0, 0), (.istore 4, 0, 0, 0), (.aload_n 0, 0, 0, 0), (.dup, 0, 0, 0), (.getfield 132, 11, 10, 0), (.iconst 1, 0, 0, 0), (.iadd, 0, 0, 0), (.putfield 132, 11, 10, 0)] _ _ _ _ (by decide +kernel) ?_
    show _ ∧ (_ ∧ (_))
    refine ⟨(((o_r0_11).mono hn1).mono hn2), (((o_r0_11).mono hn1).mono hn2), ?_⟩
    show G Γ m_MO_number (d + 1) (0, 0) Q 35 [.ref r0, .int x1, .int x2, .int v1, .int (v1 - (w 48))] [] (sI μ2 r0 10 ((xI μ2 r0 10) + (w 1)))
    obtain ⟨μ3, em3⟩ : ∃ m : XM, m = sI μ2 r0 10 ((xI μ2 r0 10) + (w 1)) := ⟨_, rfl⟩
    replace h := h μ3 em3
    have hm3 : xN μ2 ≤ xN μ3 := by rw [em3]; exact Nat.le_refl _
    rw [← em3]
    refine run_ok (pc' := 36) [(.aload_n 0, 0, 0, 0)] _ _ _ _ (by decide +kernel) ?_
    show G Γ m_MO_number (d + 1) (0, 0) Q 36 [.ref r0, .int x1, .int x2, .int v1, .int (v1 - (w 48))] [.ref r0] μ3
    refine g_invV (M' := m_MO_isDigit) (b1 := 0) (b2 := 0) (As := []) (a := r0) (st := []) lk_11_181 (by decide +kernel) rfl (dk_MO_isDigit d) (Nat.le_of_ble_eq_true rfl) (Or.inl ⟨11, ((((o_r0_11).mono hn1).mono hn2).mono hm3), rfl⟩) h ?_
    rintro _ μ4 ⟨v4, rfl, h⟩ hn4
    show G Γ m_MO_number (d + 1) (0, 0) Q 39 [.ref r0, .int x1, .int x2, .int v1, .int (v1 - (w 48))] [.int v4] μ4
    refine g_ifz_eq (pc' := 67) (off := 28) (by decide) (by decide +kernel) (fun hc => ?_) (fun hc => ?_)
    · replace h := h.1 hc
      show G Γ m_MO_number (d + 1) (0, 0) Q 67 [.ref r0, .int x1, .int x2, .int v1, .int (v1 - (w 48))] [] μ4
      refine run_ok (pc' := 68) [(.aload_n 0, 0, 0, 0)] _ _ _ _ (by decide +kernel) ?_
      show G Γ m_MO_number (d + 1) (0, 0) Q 68 [.ref r0, .int x1, .int x2, .int v1, .int (v1 - (w 48))] [.ref r0] μ4
      refine g_invV (M' := m_MO_isDigit) (b1 := 0) (b2 := 0) (As := []) (a := r0) (st := []) lk_11_181 (by decide +kernel) rfl (dk_MO_isDigit d) (Nat.le_of_ble_eq_true rfl) (Or.inl ⟨11, (((((o_r0_11).mono hn1).mono hn2).mono hm3).mono hn4), rfl⟩) h ?_
      rintro _ μ5 ⟨v5, rfl, h⟩ hn5
      show G Γ m_MO_number (d + 1) (0, 0) Q 71 [.ref r0, .int x1, .int x2, .int v1, .int (v1 - (w 48))] [.int v5] μ5
      refine g_ifz_eq (pc' := 81) (off := 10) (by decide) (by decide +kernel) (fun hc => ?_) (fun hc => ?_)
      · replace h := h.1 hc
        show G Γ m_MO_number (d + 1) (0, 0) Q 81 [.ref r0, .int x1, .int x2, .int v1, .int (v1 - (w 48))] [] μ5
        refine run_ok (pc' := 88) [(.iload 4, 0, 0, 0), (.i2l, 0, 0, 0), (.iload_n 1, 0, 0, 0), (.i2l, 0, 0, 0), (.iload_n 2, 0, 0, 0), (.i2l, 0, 0, 0)] _ _ _ _ (by decide +kernel) ?_
        show G Γ m_MO_number (d + 1) (0, 0) Q 88 [.ref r0, .int x1, .int x2, .int v1, .int (v1 - (w 48))] [.long (x2.toInt64), .long (x1.toInt64), .long ((v1 - (w 48)).toInt64)] μ5
        refine g_invS (M' := m_MO_isIn) (b1 := 0) (b2 := 0) (As := [.long ((v1 - (w 48)).toInt64), .long (x1.toInt64), .long (x2.toInt64)]) (st := []) lk_11_230 (by decide +kernel) rfl (dk_MO_isIn d) (Nat.le_of_ble_eq_true rfl) h ?_
        rintro _ μ6 ⟨v6, rfl, h⟩ hn6
        show G Γ m_MO_number (d + 1) (0, 0) Q 91 [.ref r0, .int x1, .int x2, .int v1, .int (v1 - (w 48))] [.int v6] μ6
        refine g_ifz_ne (pc' := 109) (off := 18) (by decide) (by decide +kernel) (fun hc => ?_) (fun hc => ?_)
        · replace h := h.2 hc
          show G Γ m_MO_number (d + 1) (0, 0) Q 109 [.ref r0, .int x1, .int x2, .int v1, .int (v1 - (w 48))] [] μ6
          refine run_ok (pc' := 111) [(.iload 4, 0, 0, 0)] _ _ _ _ (by decide +kernel) ?_
          show G Γ m_MO_number (d + 1) (0, 0) Q 111 [.ref r0, .int x1, .int x2, .int v1, .int (v1 - (w 48))] [.int (v1 - (w 48))] μ6
          exact g_reti (by decide +kernel) rfl h
        · replace h := h.1 hc
          show G Γ m_MO_number (d + 1) (0, 0) Q 94 [.ref r0, .int x1, .int x2, .int v1, .int (v1 - (w 48))] [] μ6
          refine run_ok (pc' := 104) [(.aload_n 0, 0, 0, 0), (.dup, 0, 0, 0), (.getfield 132, 11, 10, 0), (.iconst 1, 0, 0, 0), (.isub, 0, 0, 0), (.putfield 132, 11, 10, 0)] _ _ _ _ (by decide +kernel) ?_
          show _ ∧ (_ ∧ (_))
          refine ⟨(((((((o_r0_11).mono hn1).mono hn2).mono hm3).mono hn4).mono hn5).mono hn6), (((((((o_r0_11).mono hn1).mono hn2).mono hm3).mono hn4).mono hn5).mono hn6), ?_⟩
          show G Γ m_MO_number (d + 1) (0, 0) Q 104 [.ref r0, .int x1, .int x2, .int v1, .int (v1 - (w 48))] [] (sI μ6 r0 10 ((xI μ6 r0 10) - (w 1)))
          obtain ⟨μ7, em7⟩ : ∃ m : XM, m = sI μ6 r0 10 ((xI μ6 r0 10) - (w 1)) := ⟨_, rfl⟩
          replace h := h μ7 em7
          have hm7 : xN μ6 ≤ xN μ7 := by rw [em7]; exact Nat.le_refl _
          rw [← em7]
          refine run_ok (pc' := 105) [(.aload_n 0, 0, 0, 0)] _ _ _ _ (by decide +kernel) ?_
          show G Γ m_MO_number (d + 1) (0, 0) Q 105 [.ref r0, .int x1, .int x2, .int v1, .int (v1 - (w 48))] [.ref r0] μ7
          refine g_invV (M' := m_MO_fails) (b1 := 0) (b2 := 0) (As := []) (a := r0) (st := []) lk_11_147 (by decide +kernel) rfl (dk_MO_fails d) (Nat.le_of_ble_eq_true rfl) (Or.inl ⟨11, ((((((((o_r0_11).mono hn1).mono hn2).mono hm3).mono hn4).mono hn5).mono hn6).mono hm7), rfl⟩) h ?_
          rintro _ μ8 ⟨v8, rfl, h⟩ hn8
          show G Γ m_MO_number (d + 1) (0, 0) Q 108 [.ref r0, .int x1, .int x2, .int v1, .int (v1 - (w 48))] [.int v8] μ8
          refine run_ok (pc' := 111) [(.pop, 0, 0, 0), (.iload 4, 0, 0, 0)] _ _ _ _ (by decide +kernel) ?_
          show G Γ m_MO_number (d + 1) (0, 0) Q 111 [.ref r0, .int x1, .int x2, .int v1, .int (v1 - (w 48))] [.int (v1 - (w 48))] μ8
          exact g_reti (by decide +kernel) rfl h
      · replace h := h.2 hc
        show G Γ m_MO_number (d + 1) (0, 0) Q 74 [.ref r0, .int x1, .int x2, .int v1, .int (v1 - (w 48))] [] μ5
        refine run_ok (pc' := 75) [(.aload_n 0, 0, 0, 0)] _ _ _ _ (by decide +kernel) ?_
        show G Γ m_MO_number (d + 1) (0, 0) Q 75 [.ref r0, .int x1, .int x2, .int v1, .int (v1 - (w 48))] [.ref r0] μ5
        refine g_invV (M' := m_MO_fails) (b1 := 0) (b2 := 0) (As := []) (a := r0) (st := []) lk_11_147 (by decide +kernel) rfl (dk_MO_fails d) (Nat.le_of_ble_eq_true rfl) (Or.inl ⟨11, ((((((o_r0_11).mono hn1).mono hn2).mono hm3).mono hn4).mono hn5), rfl⟩) h ?_
        rintro _ μ9 ⟨v9, rfl, h⟩ hn9
        show G Γ m_MO_number (d + 1) (0, 0) Q 78 [.ref r0, .int x1, .int x2, .int v1, .int (v1 - (w 48))] [.int v9] μ9
        refine run_ok (pc' := 80) [(.pop, 0, 0, 0), (.iconst 0, 0, 0, 0)] _ _ _ _ (by decide +kernel) ?_
        show G Γ m_MO_number (d + 1) (0, 0) Q 80 [.ref r0, .int x1, .int x2, .int v1, .int (v1 - (w 48))] [.int (w 0)] μ9
        exact g_reti (by decide +kernel) rfl h
    · replace h := h.2 hc
      show G Γ m_MO_number (d + 1) (0, 0) Q 42 [.ref r0, .int x1, .int x2, .int v1, .int (v1 - (w 48))] [] μ4
      refine run_ok (pc' := 48) [(.bipush 10, 0, 0, 0), (.iload 4, 0, 0, 0), (.imul, 0, 0, 0), (.aload_n 0, 0, 0, 0)] _ _ _ _ (by decide +kernel) ?_
      show G Γ m_MO_number (d + 1) (0, 0) Q 48 [.ref r0, .int x1, .int x2, .int v1, .int (v1 - (w 48))] [.ref r0, .int ((w 10) * (v1 - (w 48)))] μ4
      refine g_invV (M' := m_MO_here) (b1 := 0) (b2 := 0) (As := []) (a := r0) (st := [.int ((w 10) * (v1 - (w 48)))]) lk_11_227 (by decide +kernel) rfl (dk_MO_here d) (Nat.le_of_ble_eq_true rfl) (Or.inl ⟨11, (((((o_r0_11).mono hn1).mono hn2).mono hm3).mono hn4), rfl⟩) h ?_
      rintro _ μ10 ⟨v10, rfl, h⟩ hn10
      show G Γ m_MO_number (d + 1) (0, 0) Q 51 [.ref r0, .int x1, .int x2, .int v1, .int (v1 - (w 48))] [.int v10, .int ((w 10) * (v1 - (w 48)))] μ10
      refine run_ok (pc' := 67) [(.iadd, 0, 0, 0), (.bipush 48, 0, 0, 0), (.isub, 0, 0, 0), (.istore 4, 0, 0, 0), (.aload_n 0, 0, 0, 0), (.dup, 0, 0, 0), (.getfield 132, 11, 10, 0), (.iconst 1, 0, 0, 0), (.iadd, 0, 0, 0), (.putfield 132, 11, 10, 0)] _ _ _ _ (by decide +kernel) ?_
      show _ ∧ (_ ∧ (_))
      refine ⟨((((((o_r0_11).mono hn1).mono hn2).mono hm3).mono hn4).mono hn10), ((((((o_r0_11).mono hn1).mono hn2).mono hm3).mono hn4).mono hn10), ?_⟩
      show G Γ m_MO_number (d + 1) (0, 0) Q 67 [.ref r0, .int x1, .int x2, .int v1, .int ((((w 10) * (v1 - (w 48))) + v10) - (w 48))] [] (sI μ10 r0 10 ((xI μ10 r0 10) + (w 1)))
      obtain ⟨μ11, em11⟩ : ∃ m : XM, m = sI μ10 r0 10 ((xI μ10 r0 10) + (w 1)) := ⟨_, rfl⟩
      replace h := h μ11 em11
      have hm11 : xN μ10 ≤ xN μ11 := by rw [em11]; exact Nat.le_refl _
      rw [← em11]
      refine run_ok (pc' := 68) [(.aload_n 0, 0, 0, 0)] _ _ _ _ (by decide +kernel) ?_
      show G Γ m_MO_number (d + 1) (0, 0) Q 68 [.ref r0, .int x1, .int x2, .int v1, .int ((((w 10) * (v1 - (w 48))) + v10) - (w 48))] [.ref r0] μ11
      refine g_invV (M' := m_MO_isDigit) (b1 := 0) (b2 := 0) (As := []) (a := r0) (st := []) lk_11_181 (by decide +kernel) rfl (dk_MO_isDigit d) (Nat.le_of_ble_eq_true rfl) (Or.inl ⟨11, (((((((o_r0_11).mono hn1).mono hn2).mono hm3).mono hn4).mono hn10).mono hm11), rfl⟩) h ?_
      rintro _ μ12 ⟨v12, rfl, h⟩ hn12
      show G Γ m_MO_number (d + 1) (0, 0) Q 71 [.ref r0, .int x1, .int x2, .int v1, .int ((((w 10) * (v1 - (w 48))) + v10) - (w 48))] [.int v12] μ12
      refine g_ifz_eq (pc' := 81) (off := 10) (by decide) (by decide +kernel) (fun hc => ?_) (fun hc => ?_)
      · replace h := h.1 hc
        show G Γ m_MO_number (d + 1) (0, 0) Q 81 [.ref r0, .int x1, .int x2, .int v1, .int ((((w 10) * (v1 - (w 48))) + v10) - (w 48))] [] μ12
        refine run_ok (pc' := 88) [(.iload 4, 0, 0, 0), (.i2l, 0, 0, 0), (.iload_n 1, 0, 0, 0), (.i2l, 0, 0, 0), (.iload_n 2, 0, 0, 0), (.i2l, 0, 0, 0)] _ _ _ _ (by decide +kernel) ?_
        show G Γ m_MO_number (d + 1) (0, 0) Q 88 [.ref r0, .int x1, .int x2, .int v1, .int ((((w 10) * (v1 - (w 48))) + v10) - (w 48))] [.long (x2.toInt64), .long (x1.toInt64), .long (((((w 10) * (v1 - (w 48))) + v10) - (w 48)).toInt64)] μ12
        refine g_invS (M' := m_MO_isIn) (b1 := 0) (b2 := 0) (As := [.long (((((w 10) * (v1 - (w 48))) + v10) - (w 48)).toInt64), .long (x1.toInt64), .long (x2.toInt64)]) (st := []) lk_11_230 (by decide +kernel) rfl (dk_MO_isIn d) (Nat.le_of_ble_eq_true rfl) h ?_
        rintro _ μ13 ⟨v13, rfl, h⟩ hn13
        show G Γ m_MO_number (d + 1) (0, 0) Q 91 [.ref r0, .int x1, .int x2, .int v1, .int ((((w 10) * (v1 - (w 48))) + v10) - (w 48))] [.int v13] μ13
        refine g_ifz_ne (pc' := 109) (off := 18) (by decide) (by decide +kernel) (fun hc => ?_) (fun hc => ?_)
        · replace h := h.2 hc
          show G Γ m_MO_number (d + 1) (0, 0) Q 109 [.ref r0, .int x1, .int x2, .int v1, .int ((((w 10) * (v1 - (w 48))) + v10) - (w 48))] [] μ13
          refine run_ok (pc' := 111) [(.iload 4, 0, 0, 0)] _ _ _ _ (by decide +kernel) ?_
          show G Γ m_MO_number (d + 1) (0, 0) Q 111 [.ref r0, .int x1, .int x2, .int v1, .int ((((w 10) * (v1 - (w 48))) + v10) - (w 48))] [.int ((((w 10) * (v1 - (w 48))) + v10) - (w 48))] μ13
          exact g_reti (by decide +kernel) rfl h
        · replace h := h.1 hc
          show G Γ m_MO_number (d + 1) (0, 0) Q 94 [.ref r0, .int x1, .int x2, .int v1, .int ((((w 10) * (v1 - (w 48))) + v10) - (w 48))] [] μ13
          refine run_ok (pc' := 104) [(.aload_n 0, 0, 0, 0), (.dup, 0, 0, 0), (.getfield 132, 11, 10, 0), (.iconst 1, 0, 0, 0), (.isub, 0, 0, 0), (.putfield 132, 11, 10, 0)] _ _ _ _ (by decide +kernel) ?_
          show _ ∧ (_ ∧ (_))
          refine ⟨(((((((((o_r0_11).mono hn1).mono hn2).mono hm3).mono hn4).mono hn10).mono hm11).mono hn12).mono hn13), (((((((((o_r0_11).mono hn1).mono hn2).mono hm3).mono hn4).mono hn10).mono hm11).mono hn12).mono hn13), ?_⟩
          show G Γ m_MO_number (d + 1) (0, 0) Q 104 [.ref r0, .int x1, .int x2, .int v1, .int ((((w 10) * (v1 - (w 48))) + v10) - (w 48))] [] (sI μ13 r0 10 ((xI μ13 r0 10) - (w 1)))
          obtain ⟨μ14, em14⟩ : ∃ m : XM, m = sI μ13 r0 10 ((xI μ13 r0 10) - (w 1)) := ⟨_, rfl⟩
          replace h := h μ14 em14
          have hm14 : xN μ13 ≤ xN μ14 := by rw [em14]; exact Nat.le_refl _
          rw [← em14]
          refine run_ok (pc' := 105) [(.aload_n 0, 0, 0, 0)] _ _ _ _ (by decide +kernel) ?_
          show G Γ m_MO_number (d + 1) (0, 0) Q 105 [.ref r0, .int x1, .int x2, .int v1, .int ((((w 10) * (v1 - (w 48))) + v10) - (w 48))] [.ref r0] μ14
          refine g_invV (M' := m_MO_fails) (b1 := 0) (b2 := 0) (As := []) (a := r0) (st := []) lk_11_147 (by decide +kernel) rfl (dk_MO_fails d) (Nat.le_of_ble_eq_true rfl) (Or.inl ⟨11, ((((((((((o_r0_11).mono hn1).mono hn2).mono hm3).mono hn4).mono hn10).mono hm11).mono hn12).mono hn13).mono hm14), rfl⟩) h ?_
          rintro _ μ15 ⟨v15, rfl, h⟩ hn15
          show G Γ m_MO_number (d + 1) (0, 0) Q 108 [.ref r0, .int x1, .int x2, .int v1, .int ((((w 10) * (v1 - (w 48))) + v10) - (w 48))] [.int v15] μ15
          refine run_ok (pc' := 111) [(.pop, 0, 0, 0), (.iload 4, 0, 0, 0)] _ _ _ _ (by decide +kernel) ?_
          show G Γ m_MO_number (d + 1) (0, 0) Q 111 [.ref r0, .int x1, .int x2, .int v1, .int ((((w 10) * (v1 - (w 48))) + v10) - (w 48))] [.int ((((w 10) * (v1 - (w 48))) + v10) - (w 48))] μ15
          exact g_reti (by decide +kernel) rfl h
      · replace h := h.2 hc
        show G Γ m_MO_number (d + 1) (0, 0) Q 74 [.ref r0, .int x1, .int x2, .int v1, .int ((((w 10) * (v1 - (w 48))) + v10) - (w 48))] [] μ12
        refine run_ok (pc' := 75) [(.aload_n 0, 0, 0, 0)] _ _ _ _ (by decide +kernel) ?_
        show G Γ m_MO_number (d + 1) (0, 0) Q 75 [.ref r0, .int x1, .int x2, .int v1, .int ((((w 10) * (v1 - (w 48))) + v10) - (w 48))] [.ref r0] μ12
        refine g_invV (M' := m_MO_fails) (b1 := 0) (b2 := 0) (As := []) (a := r0) (st := []) lk_11_147 (by decide +kernel) rfl (dk_MO_fails d) (Nat.le_of_ble_eq_true rfl) (Or.inl ⟨11, ((((((((o_r0_11).mono hn1).mono hn2).mono hm3).mono hn4).mono hn10).mono hm11).mono hn12), rfl⟩) h ?_
        rintro _ μ16 ⟨v16, rfl, h⟩ hn16
        show G Γ m_MO_number (d + 1) (0, 0) Q 78 [.ref r0, .int x1, .int x2, .int v1, .int ((((w 10) * (v1 - (w 48))) + v10) - (w 48))] [.int v16] μ16
        refine run_ok (pc' := 80) [(.pop, 0, 0, 0), (.iconst 0, 0, 0, 0)] _ _ _ _ (by decide +kernel) ?_
        show G Γ m_MO_number (d + 1) (0, 0) Q 80 [.ref r0, .int x1, .int x2, .int v1, .int ((((w 10) * (v1 - (w 48))) + v10) - (w 48))] [.int (w 0)] μ16
        exact g_reti (by decide +kernel) rfl h
  · replace h := h.1 hc
    show G Γ m_MO_number (d + 1) (0, 0) Q 12 [.ref r0, .int x1, .int x2, .int v1] [] μ2
    refine run_ok (pc' := 13) [(.aload_n 0, 0, 0, 0)] _ _ _ _ (by decide +kernel) ?_
    show G Γ m_MO_number (d + 1) (0, 0) Q 13 [.ref r0, .int x1, .int x2, .int v1] [.ref r0] μ2
    refine g_invV (M' := m_MO_fails) (b1 := 0) (b2 := 0) (As := []) (a := r0) (st := []) lk_11_147 (by decide +kernel) rfl (dk_MO_fails d) (Nat.le_of_ble_eq_true rfl) (Or.inl ⟨11, (((o_r0_11).mono hn1).mono hn2), rfl⟩) h ?_
    rintro _ μ17 ⟨v17, rfl, h⟩ hn17
    show G Γ m_MO_number (d + 1) (0, 0) Q 16 [.ref r0, .int x1, .int x2, .int v1] [.int v17] μ17
    refine run_ok (pc' := 18) [(.pop, 0, 0, 0), (.iconst 0, 0, 0, 0)] _ _ _ _ (by decide +kernel) ?_
    show G Γ m_MO_number (d + 1) (0, 0) Q 18 [.ref r0, .int x1, .int x2, .int v1] [.int (w 0)] μ17
    exact g_reti (by decide +kernel) rfl h
