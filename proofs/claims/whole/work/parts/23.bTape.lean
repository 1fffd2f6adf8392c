/-! FrostBox$Tape bytesIn(I)I -/
set_option maxRecDepth 100000 in
theorem B_Ta_bytesIn_0 {Γ : XG} {d : Nat} {Q : Option Value → XM → Prop} {x0 : Int32} {μ : XM}  (h : G Γ m_Ta_bytesIn (d + 1) (0, 0) Q 5 [.int x0, .int (w 0), .int (w 24)] [] μ) : G Γ m_Ta_bytesIn (d + 1) (0, 0) Q 0 [.int x0] [] μ := by
  refine run_ok (pc' := 5) [(.iconst 0, 0, 0, 0), (.istore_n 1, 0, 0, 0), (.bipush 24, 0, 0, 0), (.istore_n 2, 0, 0, 0)] _ _ _ _ (by decide +kernel) ?_
  show G Γ m_Ta_bytesIn (d + 1) (0, 0) Q 5 [.int x0, .int (w 0), .int (w 24)] [] μ
  exact h
set_option maxRecDepth 100000 in
theorem B_Ta_bytesIn_5 {Γ : XG} {d : Nat} {Q : Option Value → XM → Prop} {x0 x1 x2 : Int32} {μ : XM}  (h : ((x2 < w 0 → Q (some (.int x1)) μ) ∧ (¬ x2 < w 0 → ((((x0.toUInt32 >>> (x2.toUInt32 &&& Int32.toUInt32 31)).toInt32) &&& (w 255) = w 0 → G Γ m_Ta_bytesIn (d + 1) (0, 0) Q 5 [.int x0, .int (x1 + (w 0)), .int (x2 + w (-8))] [] μ) ∧ (¬ ((x0.toUInt32 >>> (x2.toUInt32 &&& Int32.toUInt32 31)).toInt32) &&& (w 255) = w 0 → G Γ m_Ta_bytesIn (d + 1) (0, 0) Q 5 [.int x0, .int (x1 + (w 1)), .int (x2 + w (-8))] [] μ))))) : G Γ m_Ta_bytesIn (d + 1) (0, 0) Q 5 [.int x0, .int x1, .int x2] [] μ := by
  refine run_ok (pc' := 6) [(.iload_n 2, 0, 0, 0)] _ _ _ _ (by decide +kernel) ?_
  show G Γ m_Ta_bytesIn (d + 1) (0, 0) Q 6 [.int x0, .int x1, .int x2] [.int x2] μ
  refine g_ifz_lt (pc' := 33) (off := 27) (by decide) (by decide +kernel) (fun hc => ?_) (fun hc => ?_)
  · replace h := h.1 hc
    show G Γ m_Ta_bytesIn (d + 1) (0, 0) Q 33 [.int x0, .int x1, .int x2] [] μ
    refine run_ok (pc' := 34) [(.iload_n 1, 0, 0, 0)] _ _ _ _ (by decide +kernel) ?_
    show G Γ m_Ta_bytesIn (d + 1) (0, 0) Q 34 [.int x0, .int x1, .int x2] [.int x1] μ
    exact g_reti (by decide +kernel) rfl h
  · replace h := h.2 hc
    show G Γ m_Ta_bytesIn (d + 1) (0, 0) Q 9 [.int x0, .int x1, .int x2] [] μ
    refine run_ok (pc' := 17) [(.iload_n 1, 0, 0, 0), (.iload_n 0, 0, 0, 0), (.iload_n 2, 0, 0, 0), (.iushr, 0, 0, 0), (.sipush 255, 0, 0, 0), (.iand, 0, 0, 0)] _ _ _ _ (by decide +kernel) ?_
    show G Γ m_Ta_bytesIn (d + 1) (0, 0) Q 17 [.int x0, .int x1, .int x2] [.int (((x0.toUInt32 >>> (x2.toUInt32 &&& Int32.toUInt32 31)).toInt32) &&& (w 255)), .int x1] μ
    refine g_ifz_eq (pc' := 24) (off := 7) (by decide) (by decide +kernel) (fun hc => ?_) (fun hc => ?_)
    · replace h := h.1 hc
      show G Γ m_Ta_bytesIn (d + 1) (0, 0) Q 24 [.int x0, .int x1, .int x2] [.int x1] μ
      refine run_ok (pc' := 5) [(.iconst 0, 0, 0, 0), (.iadd, 0, 0, 0), (.istore_n 1, 0, 0, 0), (.iinc 2 (-8), 0, 0, 0), (.goto (-25), 0, 0, 0)] _ _ _ _ (by decide +kernel) ?_
      show G Γ m_Ta_bytesIn (d + 1) (0, 0) Q 5 [.int x0, .int (x1 + (w 0)), .int (x2 + w (-8))] [] μ
      exact h
    · replace h := h.2 hc
      show G Γ m_Ta_bytesIn (d + 1) (0, 0) Q 20 [.int x0, .int x1, .int x2] [.int x1] μ
      refine run_ok (pc' := 5) [(.iconst 1, 0, 0, 0), (.goto 4, 0, 0, 0), (.iadd, 0, 0, 0), (.istore_n 1, 0, 0, 0), (.iinc 2 (-8), 0, 0, 0), (.goto (-25), 0, 0, 0)] _ _ _ _ (by decide +kernel) ?_
      show G Γ m_Ta_bytesIn (d + 1) (0, 0) Q 5 [.int x0, .int (x1 + (w 1)), .int (x2 + w (-8))] [] μ
      exact h
/-! FrostBox$Tape append(I)V -/
set_option maxRecDepth 100000 in
theorem B_Ta_append_0 {Γ : XG} {d : Nat} {Q : Option Value → XM → Prop} {r0 : Nat} {x1 : Int32} {μ : XM}  (h : G Γ m_Ta_append (d + 1) (0, 0) Q 3 [.ref r0, .int x1, .int (w 24)] [] μ) : G Γ m_Ta_append (d + 1) (0, 0) Q 0 [.ref r0, .int x1] [] μ := by
  refine run_ok (pc' := 3) [(.bipush 24, 0, 0, 0), (.istore_n 2, 0, 0, 0)] _ _ _ _ (by decide +kernel) ?_
  show G Γ m_Ta_append (d + 1) (0, 0) Q 3 [.ref r0, .int x1, .int (w 24)] [] μ
  exact h
set_option maxRecDepth 100000 in
theorem B_Ta_append_3 {Γ : XG} {d : Nat} {Q : Option Value → XM → Prop} {r0 r0_0 : Nat} {x1 x2 : Int32} {μ : XM} (o_r0_9 : ob μ r0 9) (e_r0_0 : xR μ r0 0 = some r0_0) (h : ((x2 < w 0 → Q none μ) ∧ (¬ x2 < w 0 → ((((x1.toUInt32 >>> (x2.toUInt32 &&& Int32.toUInt32 31)).toInt32) &&& (w 255) = w 0 → G Γ m_Ta_append (d + 1) (0, 0) Q 3 [.ref r0, .int x1, .int (x2 + w (-8))] [] μ) ∧ (¬ ((x1.toUInt32 >>> (x2.toUInt32 &&& Int32.toUInt32 31)).toInt32) &&& (w 255) = w 0 → ∃ n1, ar μ r0_0 0 n1 ∧ ((xI μ r0 1 < w n1 → inS μ 0 r0_0 (xI μ r0 1) ∧ ∀ μ3, μ3 = sI μ r0_0 (xI μ r0 1).toNatClampNeg (((x1.toUInt32 >>> (x2.toUInt32 &&& Int32.toUInt32 31)).toInt32) &&& (w 255)) → ∀ μ4, μ4 = sI μ3 r0 1 ((xI μ3 r0 1) + (w 1)) → G Γ m_Ta_append (d + 1) (0, 0) Q 3 [.ref r0, .int x1, .int (x2 + w (-8))] [] μ4) ∧ (¬ xI μ r0 1 < w n1 → G Γ m_Ta_append (d + 1) (0, 0) Q 3 [.ref r0, .int x1, .int (x2 + w (-8))] [] μ))))))) : G Γ m_Ta_append (d + 1) (0, 0) Q 3 [.ref r0, .int x1, .int x2] [] μ := by
  refine run_ok (pc' := 4) [(.iload_n 2, 0, 0, 0)] _ _ _ _ (by decide +kernel) ?_
  show G Γ m_Ta_append (d + 1) (0, 0) Q 4 [.ref r0, .int x1, .int x2] [.int x2] μ
  refine g_ifz_lt (pc' := 57) (off := 53) (by decide) (by decide +kernel) (fun hc => ?_) (fun hc => ?_)
  · replace h := h.1 hc
    show G Γ m_Ta_append (d + 1) (0, 0) Q 57 [.ref r0, .int x1, .int x2] [] μ
    exact g_retv (by decide +kernel) rfl h
  · replace h := h.2 hc
    show G Γ m_Ta_append (d + 1) (0, 0) Q 7 [.ref r0, .int x1, .int x2] [] μ
    refine run_ok (pc' := 16) [(.iload_n 1, 0, 0, 0), (.iload_n 2, 0, 0, 0), (.iushr, 0, 0, 0), (.sipush 255, 0, 0, 0), (.iand, 0, 0, 0), (.istore_n 3, 0, 0, 0), (.iload_n 3, 0, 0, 0)] _ _ _ _ (by decide +kernel) ?_
    show G Γ m_Ta_append (d + 1) (0, 0) Q 16 [.ref r0, .int x1, .int x2, .int (((x1.toUInt32 >>> (x2.toUInt32 &&& Int32.toUInt32 31)).toInt32) &&& (w 255))] [.int (((x1.toUInt32 >>> (x2.toUInt32 &&& Int32.toUInt32 31)).toInt32) &&& (w 255))] μ
    refine g_ifz_eq (pc' := 51) (off := 35) (by decide) (by decide +kernel) (fun hc => ?_) (fun hc => ?_)
    · replace h := h.1 hc
      show G Γ m_Ta_append (d + 1) (0, 0) Q 51 [.ref r0, .int x1, .int x2, .int (((x1.toUInt32 >>> (x2.toUInt32 &&& Int32.toUInt32 31)).toInt32) &&& (w 255))] [] μ
      refine run_ok (pc' := 3) [(.iinc 2 (-8), 0, 0, 0), (.goto (-51), 0, 0, 0)] _ _ _ _ (by decide +kernel) ?_
      show G Γ m_Ta_append (d + 1) (0, 0) Q 3 [.ref r0, .int x1, .int (x2 + w (-8)), .int (((x1.toUInt32 >>> (x2.toUInt32 &&& Int32.toUInt32 31)).toInt32) &&& (w 255))] [] μ
      exact g_wk (ls' := [.ref r0, .int x1, .int (x2 + w (-8))]) ⟨Or.inr rfl, Or.inr rfl, Or.inr rfl, trivial⟩ h
    · replace h := h.2 hc
      show G Γ m_Ta_append (d + 1) (0, 0) Q 19 [.ref r0, .int x1, .int x2, .int (((x1.toUInt32 >>> (x2.toUInt32 &&& Int32.toUInt32 31)).toInt32) &&& (w 255))] [] μ
      obtain ⟨n1, el1, h⟩ := h
      refine run_ok (pc' := 28) [(.aload_n 0, 0, 0, 0), (.getfield 19, 9, 1, 0), (.aload_n 0, 0, 0, 0), (.getfield 9, 9, 0, 2), (.arraylength, 0, 0, 0)] _ _ _ _ (by decide +kernel) ?_
      show _ ∧ (_ ∧ (∃ _, _ ∧ (∃ _, _ ∧ (_))))
      refine ⟨o_r0_9, o_r0_9, r0_0, e_r0_0, n1, el1, ?_⟩
      show G Γ m_Ta_append (d + 1) (0, 0) Q 28 [.ref r0, .int x1, .int x2, .int (((x1.toUInt32 >>> (x2.toUInt32 &&& Int32.toUInt32 31)).toInt32) &&& (w 255))] [.int (w n1), .int (xI μ r0 1)] μ
      refine g_icmp_ge (pc' := 51) (off := 23) (by decide) (by decide +kernel) (fun hc => ?_) (fun hc => ?_)
      · replace h := h.2 hc
        show G Γ m_Ta_append (d + 1) (0, 0) Q 51 [.ref r0, .int x1, .int x2, .int (((x1.toUInt32 >>> (x2.toUInt32 &&& Int32.toUInt32 31)).toInt32) &&& (w 255))] [] μ
        refine run_ok (pc' := 3) [(.iinc 2 (-8), 0, 0, 0), (.goto (-51), 0, 0, 0)] _ _ _ _ (by decide +kernel) ?_
        show G Γ m_Ta_append (d + 1) (0, 0) Q 3 [.ref r0, .int x1, .int (x2 + w (-8)), .int (((x1.toUInt32 >>> (x2.toUInt32 &&& Int32.toUInt32 31)).toInt32) &&& (w 255))] [] μ
        exact g_wk (ls' := [.ref r0, .int x1, .int (x2 + w (-8))]) ⟨Or.inr rfl, Or.inr rfl, Or.inr rfl, trivial⟩ h
      · replace h := h.1 hc
        show G Γ m_Ta_append (d + 1) (0, 0) Q 31 [.ref r0, .int x1, .int x2, .int (((x1.toUInt32 >>> (x2.toUInt32 &&& Int32.toUInt32 31)).toInt32) &&& (w 255))] [] μ
        obtain ⟨is2, h⟩ := h
        refine run_ok (pc' := 41) [(.aload_n 0, 0, 0, 0), (.getfield 9, 9, 0, 2), (.aload_n 0, 0, 0, 0), (.getfield 19, 9, 1, 0), (.iload_n 3, 0, 0, 0), (.iastore, 0, 0, 0)] _ _ _ _ (by decide +kernel) ?_
        show _ ∧ (∃ _, _ ∧ (_ ∧ (_ ∧ (_))))
        refine ⟨o_r0_9, r0_0, e_r0_0, o_r0_9, is2, ?_⟩
        show G Γ m_Ta_append (d + 1) (0, 0) Q 41 [.ref r0, .int x1, .int x2, .int (((x1.toUInt32 >>> (x2.toUInt32 &&& Int32.toUInt32 31)).toInt32) &&& (w 255))] [] (sI μ r0_0 (xI μ r0 1).toNatClampNeg (((x1.toUInt32 >>> (x2.toUInt32 &&& Int32.toUInt32 31)).toInt32) &&& (w 255)))
        obtain ⟨μ3, em3⟩ : ∃ m : XM, m = sI μ r0_0 (xI μ r0 1).toNatClampNeg (((x1.toUInt32 >>> (x2.toUInt32 &&& Int32.toUInt32 31)).toInt32) &&& (w 255)) := ⟨_, rfl⟩
        replace h := h μ3 em3
        have hm3 : xN μ ≤ xN μ3 := by rw [em3]; exact Nat.le_refl _
        rw [← em3]
        refine run_ok (pc' := 51) [(.aload_n 0, 0, 0, 0), (.dup, 0, 0, 0), (.getfield 19, 9, 1, 0), (.iconst 1, 0, 0, 0), (.iadd, 0, 0, 0), (.putfield 19, 9, 1, 0)] _ _ _ _ (by decide +kernel) ?_
        show _ ∧ (_ ∧ (_))
        refine ⟨((o_r0_9).mono hm3), ((o_r0_9).mono hm3), ?_⟩
        show G Γ m_Ta_append (d + 1) (0, 0) Q 51 [.ref r0, .int x1, .int x2, .int (((x1.toUInt32 >>> (x2.toUInt32 &&& Int32.toUInt32 31)).toInt32) &&& (w 255))] [] (sI μ3 r0 1 ((xI μ3 r0 1) + (w 1)))
        obtain ⟨μ4, em4⟩ : ∃ m : XM, m = sI μ3 r0 1 ((xI μ3 r0 1) + (w 1)) := ⟨_, rfl⟩
        replace h := h μ4 em4
        have hm4 : xN μ3 ≤ xN μ4 := by rw [em4]; exact Nat.le_refl _
        rw [← em4]
        refine run_ok (pc' := 3) [(.iinc 2 (-8), 0, 0, 0), (.goto (-51), 0, 0, 0)] _ _ _ _ (by decide +kernel) ?_
        show G Γ m_Ta_append (d + 1) (0, 0) Q 3 [.ref r0, .int x1, .int (x2 + w (-8)), .int (((x1.toUInt32 >>> (x2.toUInt32 &&& Int32.toUInt32 31)).toInt32) &&& (w 255))] [] μ4
        exact g_wk (ls' := [.ref r0, .int x1, .int (x2 + w (-8))]) ⟨Or.inr rfl, Or.inr rfl, Or.inr rfl, trivial⟩ h
/-! FrostBox$Tape rewind()V -/
set_option maxRecDepth 100000 in
theorem B_Ta_rewind_0 {Γ : XG} {d : Nat} {Q : Option Value → XM → Prop} {r0 : Nat} {μ : XM} (o_r0_9 : ob μ r0 9) (h : ∀ μ1, μ1 = sI μ r0 2 (w 0) → ∀ μ2, μ2 = sI μ1 r0 3 (w (-1)) → Q none μ2) : G Γ m_Ta_rewind (d + 1) (0, 0) Q 0 [.ref r0] [] μ := by
  refine run_ok (pc' := 5) [(.aload_n 0, 0, 0, 0), (.iconst 0, 0, 0, 0), (.putfield 22, 9, 2, 0)] _ _ _ _ (by decide +kernel) ?_
  show _ ∧ (_)
  refine ⟨o_r0_9, ?_⟩
  show G Γ m_Ta_rewind (d + 1) (0, 0) Q 5 [.ref r0] [] (sI μ r0 2 (w 0))
  obtain ⟨μ1, em1⟩ : ∃ m : XM, m = sI μ r0 2 (w 0) := ⟨_, rfl⟩
  replace h := h μ1 em1
  have hm1 : xN μ ≤ xN μ1 := by rw [em1]; exact Nat.le_refl _
  rw [← em1]
  refine run_ok (pc' := 10) [(.aload_n 0, 0, 0, 0), (.iconst (-1), 0, 0, 0), (.putfield 15, 9, 3, 0)] _ _ _ _ (by decide +kernel) ?_
  show _ ∧ (_)
  refine ⟨((o_r0_9).mono hm1), ?_⟩
  show G Γ m_Ta_rewind (d + 1) (0, 0) Q 10 [.ref r0] [] (sI μ1 r0 3 (w (-1)))
  obtain ⟨μ2, em2⟩ : ∃ m : XM, m = sI μ1 r0 3 (w (-1)) := ⟨_, rfl⟩
  replace h := h μ2 em2
  have hm2 : xN μ1 ≤ xN μ2 := by rw [em2]; exact Nat.le_refl _
  rw [← em2]
  exact g_retv (by decide +kernel) rfl h
/-! FrostBox$Tape ahead()I -/
set_option maxRecDepth 100000 in
theorem B_Ta_ahead_0 {Γ : XG} {d : Nat} {Q : Option Value → XM → Prop} {r0 r0_0 : Nat} {μ : XM} (o_r0_9 : ob μ r0 9) (e_r0_0 : xR μ r0 0 = some r0_0) (h : ((xI μ r0 2 < xI μ r0 1 → inb μ 0 r0_0 (xI μ r0 2) ∧ ((xI μ r0_0 (xI μ r0 2).toNatClampNeg = w 32 → ∀ μ4, μ4 = sI μ r0 2 ((xI μ r0 2) + (w 1)) → G Γ m_Ta_ahead (d + 1) (0, 0) Q 0 [.ref r0] [] μ4) ∧ (¬ xI μ r0_0 (xI μ r0 2).toNatClampNeg = w 32 → ((xI μ r0 2 < xI μ r0 1 → inb μ 0 r0_0 (xI μ r0 2) ∧ Q (some (.int (xI μ r0_0 (xI μ r0 2).toNatClampNeg))) μ) ∧ (¬ xI μ r0 2 < xI μ r0 1 → Q (some (.int (w (-1)))) μ))))) ∧ (¬ xI μ r0 2 < xI μ r0 1 → ((xI μ r0 2 < xI μ r0 1 → inb μ 0 r0_0 (xI μ r0 2) ∧ Q (some (.int (xI μ r0_0 (xI μ r0 2).toNatClampNeg))) μ) ∧ (¬ xI μ r0 2 < xI μ r0 1 → Q (some (.int (w (-1)))) μ))))) : G Γ m_Ta_ahead (d + 1) (0, 0) Q 0 [.ref r0] [] μ := by
  refine run_ok (pc' := 8) [(.aload_n 0, 0, 0, 0), (.getfield 22, 9, 2, 0), (.aload_n 0, 0, 0, 0), (.getfield 19, 9, 1, 0)] _ _ _ _ (by decide +kernel) ?_
  show _ ∧ (_ ∧ (_))
  refine ⟨o_r0_9, o_r0_9, ?_⟩
  show G Γ m_Ta_ahead (d + 1) (0, 0) Q 8 [.ref r0] [.int (xI μ r0 1), .int (xI μ r0 2)] μ
  refine g_icmp_ge (pc' := 38) (off := 30) (by decide) (by decide +kernel) (fun hc => ?_) (fun hc => ?_)
  · replace h := h.2 hc
    show G Γ m_Ta_ahead (d + 1) (0, 0) Q 38 [.ref r0] [] μ
    refine run_ok (pc' := 46) [(.aload_n 0, 0, 0, 0), (.getfield 22, 9, 2, 0), (.aload_n 0, 0, 0, 0), (.getfield 19, 9, 1, 0)] _ _ _ _ (by decide +kernel) ?_
    show _ ∧ (_ ∧ (_))
    refine ⟨o_r0_9, o_r0_9, ?_⟩
    show G Γ m_Ta_ahead (d + 1) (0, 0) Q 46 [.ref r0] [.int (xI μ r0 1), .int (xI μ r0 2)] μ
    refine g_icmp_ge (pc' := 61) (off := 15) (by decide) (by decide +kernel) (fun hc => ?_) (fun hc => ?_)
    · replace h := h.2 hc
      show G Γ m_Ta_ahead (d + 1) (0, 0) Q 61 [.ref r0] [] μ
      refine run_ok (pc' := 62) [(.iconst (-1), 0, 0, 0)] _ _ _ _ (by decide +kernel) ?_
      show G Γ m_Ta_ahead (d + 1) (0, 0) Q 62 [.ref r0] [.int (w (-1))] μ
      exact g_reti (by decide +kernel) rfl h
    · replace h := h.1 hc
      show G Γ m_Ta_ahead (d + 1) (0, 0) Q 49 [.ref r0] [] μ
      obtain ⟨ib1, h⟩ := h
      refine run_ok (pc' := 62) [(.aload_n 0, 0, 0, 0), (.getfield 9, 9, 0, 2), (.aload_n 0, 0, 0, 0), (.getfield 22, 9, 2, 0), (.iaload, 0, 0, 0), (.goto 4, 0, 0, 0)] _ _ _ _ (by decide +kernel) ?_
      show _ ∧ (∃ _, _ ∧ (_ ∧ (_ ∧ (_))))
      refine ⟨o_r0_9, r0_0, e_r0_0, o_r0_9, ib1, ?_⟩
      show G Γ m_Ta_ahead (d + 1) (0, 0) Q 62 [.ref r0] [.int (xI μ r0_0 (xI μ r0 2).toNatClampNeg)] μ
      exact g_reti (by decide +kernel) rfl h
  · replace h := h.1 hc
    show G Γ m_Ta_ahead (d + 1) (0, 0) Q 11 [.ref r0] [] μ
    obtain ⟨ib2, h⟩ := h
    refine run_ok (pc' := 22) [(.aload_n 0, 0, 0, 0), (.getfield 9, 9, 0, 2), (.aload_n 0, 0, 0, 0), (.getfield 22, 9, 2, 0), (.iaload, 0, 0, 0), (.bipush 32, 0, 0, 0)] _ _ _ _ (by decide +kernel) ?_
    show _ ∧ (∃ _, _ ∧ (_ ∧ (_ ∧ (_))))
    refine ⟨o_r0_9, r0_0, e_r0_0, o_r0_9, ib2, ?_⟩
    show G Γ m_Ta_ahead (d + 1) (0, 0) Q 22 [.ref r0] [.int (w 32), .int (xI μ r0_0 (xI μ r0 2).toNatClampNeg)] μ
    refine g_icmp_ne (pc' := 38) (off := 16) (by decide) (by decide +kernel) (fun hc => ?_) (fun hc => ?_)
    · replace h := h.2 hc
      show G Γ m_Ta_ahead (d + 1) (0, 0) Q 38 [.ref r0] [] μ
      refine run_ok (pc' := 46) [(.aload_n 0, 0, 0, 0), (.getfield 22, 9, 2, 0), (.aload_n 0, 0, 0, 0), (.getfield 19, 9, 1, 0)] _ _ _ _ (by decide +kernel) ?_
      show _ ∧ (_ ∧ (_))
      refine ⟨o_r0_9, o_r0_9, ?_⟩
      show G Γ m_Ta_ahead (d + 1) (0, 0) Q 46 [.ref r0] [.int (xI μ r0 1), .int (xI μ r0 2)] μ
      refine g_icmp_ge (pc' := 61) (off := 15) (by decide) (by decide +kernel) (fun hc => ?_) (fun hc => ?_)
      · replace h := h.2 hc
        show G Γ m_Ta_ahead (d + 1) (0, 0) Q 61 [.ref r0] [] μ
        refine run_ok (pc' := 62) [(.iconst (-1), 0, 0, 0)] _ _ _ _ (by decide +kernel) ?_
        show G Γ m_Ta_ahead (d + 1) (0, 0) Q 62 [.ref r0] [.int (w (-1))] μ
        exact g_reti (by decide +kernel) rfl h
      · replace h := h.1 hc
        show G Γ m_Ta_ahead (d + 1) (0, 0) Q 49 [.ref r0] [] μ
        obtain ⟨ib3, h⟩ := h
        refine run_ok (pc' := 62) [(.aload_n 0, 0, 0, 0), (.getfield 9, 9, 0, 2), (.aload_n 0, 0, 0, 0), (.getfield 22, 9, 2, 0), (.iaload, 0, 0, 0), (.goto 4, 0, 0, 0)] _ _ _ _ (by decide +kernel) ?_
        show _ ∧ (∃ _, _ ∧ (_ ∧ (_ ∧ (_))))
        refine ⟨o_r0_9, r0_0, e_r0_0, o_r0_9, ib3, ?_⟩
        show G Γ m_Ta_ahead (d + 1) (0, 0) Q 62 [.ref r0] [.int (xI μ r0_0 (xI μ r0 2).toNatClampNeg)] μ
        exact g_reti (by decide +kernel) rfl h
    · replace h := h.1 hc
      show G Γ m_Ta_ahead (d + 1) (0, 0) Q 25 [.ref r0] [] μ
      refine run_ok (pc' := 35) [(.aload_n 0, 0, 0, 0), (.dup, 0, 0, 0), (.getfield 22, 9, 2, 0), (.iconst 1, 0, 0, 0), (.iadd, 0, 0, 0), (.putfield 22, 9, 2, 0)] _ _ _ _ (by decide +kernel) ?_
      show _ ∧ (_ ∧ (_))
      refine ⟨o_r0_9, o_r0_9, ?_⟩
      show G Γ m_Ta_ahead (d + 1) (0, 0) Q 35 [.ref r0] [] (sI μ r0 2 ((xI μ r0 2) + (w 1)))
      obtain ⟨μ4, em4⟩ : ∃ m : XM, m = sI μ r0 2 ((xI μ r0 2) + (w 1)) := ⟨_, rfl⟩
      replace h := h μ4 em4
      have hm4 : xN μ ≤ xN μ4 := by rw [em4]; exact Nat.le_refl _
      rw [← em4]
      refine run_ok (pc' := 0) [(.goto (-35), 0, 0, 0)] _ _ _ _ (by decide +kernel) ?_
      show G Γ m_Ta_ahead (d + 1) (0, 0) Q 0 [.ref r0] [] μ4
      exact h
/-! FrostBox$Tape pass()V -/
set_option maxRecDepth 100000 in
theorem B_Ta_pass_0 {Γ : XG} {d : Nat} {Q : Option Value → XM → Prop} {r0 : Nat} {μ : XM} (o_r0_9 : ob μ r0 9) (h : ∀ μ1, μ1 = sI μ r0 2 ((xI μ r0 2) + (w 1)) → Q none μ1) : G Γ m_Ta_pass (d + 1) (0, 0) Q 0 [.ref r0] [] μ := by
  refine run_ok (pc' := 10) [(.aload_n 0, 0, 0, 0), (.dup, 0, 0, 0), (.getfield 22, 9, 2, 0), (.iconst 1, 0, 0, 0), (.iadd, 0, 0, 0), (.putfield 22, 9, 2, 0)] _ _ _ _ (by decide +kernel) ?_
  show _ ∧ (_ ∧ (_))
  refine ⟨o_r0_9, o_r0_9, ?_⟩
  show G Γ m_Ta_pass (d + 1) (0, 0) Q 10 [.ref r0] [] (sI μ r0 2 ((xI μ r0 2) + (w 1)))
  obtain ⟨μ1, em1⟩ : ∃ m : XM, m = sI μ r0 2 ((xI μ r0 2) + (w 1)) := ⟨_, rfl⟩
  replace h := h μ1 em1
  have hm1 : xN μ ≤ xN μ1 := by rw [em1]; exact Nat.le_refl _
  rw [← em1]
  exact g_retv (by decide +kernel) rfl h
/-! FrostBox$Tape refuse()Z -/
set_option maxRecDepth 100000 in
theorem B_Ta_refuse_0 {Γ : XG} {d : Nat} {Q : Option Value → XM → Prop} {r0 : Nat} {μ : XM} (o_r0_9 : ob μ r0 9) (h : ∀ μ1, μ1 = sI μ r0 3 (xI μ r0 2) → Q (some (.int (w 0))) μ1) : G Γ m_Ta_refuse (d + 1) (0, 0) Q 0 [.ref r0] [] μ := by
  refine run_ok (pc' := 8) [(.aload_n 0, 0, 0, 0), (.aload_n 0, 0, 0, 0), (.getfield 22, 9, 2, 0), (.putfield 15, 9, 3, 0)] _ _ _ _ (by decide +kernel) ?_
  show _ ∧ (_ ∧ (_))
  refine ⟨o_r0_9, o_r0_9, ?_⟩
  show G Γ m_Ta_refuse (d + 1) (0, 0) Q 8 [.ref r0] [] (sI μ r0 3 (xI μ r0 2))
  obtain ⟨μ1, em1⟩ : ∃ m : XM, m = sI μ r0 3 (xI μ r0 2) := ⟨_, rfl⟩
  replace h := h μ1 em1
  have hm1 : xN μ ≤ xN μ1 := by rw [em1]; exact Nat.le_refl _
  rw [← em1]
  refine run_ok (pc' := 9) [(.iconst 0, 0, 0, 0)] _ _ _ _ (by decide +kernel) ?_
  show G Γ m_Ta_refuse (d + 1) (0, 0) Q 9 [.ref r0] [.int (w 0)] μ1
  exact g_retz (by decide +kernel) rfl (Or.inl rfl) h
/-! FrostBox$Tape refuseLast()Z -/
set_option maxRecDepth 100000 in
theorem B_Ta_refuseLast_0 {Γ : XG} {d : Nat} {Q : Option Value → XM → Prop} {r0 : Nat} {μ : XM} (o_r0_9 : ob μ r0 9) (h : ∀ μ1, μ1 = sI μ r0 3 ((xI μ r0 2) - (w 1)) → Q (some (.int (w 0))) μ1) : G Γ m_Ta_refuseLast (d + 1) (0, 0) Q 0 [.ref r0] [] μ := by
  refine run_ok (pc' := 10) [(.aload_n 0, 0, 0, 0), (.aload_n 0, 0, 0, 0), (.getfield 22, 9, 2, 0), (.iconst 1, 0, 0, 0), (.isub, 0, 0, 0), (.putfield 15, 9, 3, 0)] _ _ _ _ (by decide +kernel) ?_
  show _ ∧ (_ ∧ (_))
  refine ⟨o_r0_9, o_r0_9, ?_⟩
  show G Γ m_Ta_refuseLast (d + 1) (0, 0) Q 10 [.ref r0] [] (sI μ r0 3 ((xI μ r0 2) - (w 1)))
  obtain ⟨μ1, em1⟩ : ∃ m : XM, m = sI μ r0 3 ((xI μ r0 2) - (w 1)) := ⟨_, rfl⟩
  replace h := h μ1 em1
  have hm1 : xN μ ≤ xN μ1 := by rw [em1]; exact Nat.le_refl _
  rw [← em1]
  refine run_ok (pc' := 11) [(.iconst 0, 0, 0, 0)] _ _ _ _ (by decide +kernel) ?_
  show G Γ m_Ta_refuseLast (d + 1) (0, 0) Q 11 [.ref r0] [.int (w 0)] μ1
  exact g_retz (by decide +kernel) rfl (Or.inl rfl) h
/-! FrostBox$Tape demand(I)Z -/
set_option maxRecDepth 100000 in
theorem lk_9_33 : LkV 9 33 m_Ta_pass 0 := ⟨lc_Ta_pass, lwG_in (List.mem_of_getElem? (i := 561) rfl) rfl, lwG_in (List.mem_of_getElem? (i := 499) rfl) rfl, lwG_in (List.mem_of_getElem? (i := 500) rfl) rfl⟩
set_option maxRecDepth 100000 in
theorem lk_9_29 : LkV 9 29 m_Ta_refuse 0 := ⟨lc_Ta_refuse, lwG_in (List.mem_of_getElem? (i := 560) rfl) rfl, lwG_in (List.mem_of_getElem? (i := 516) rfl) rfl, lwG_in (List.mem_of_getElem? (i := 517) rfl) rfl⟩
set_option maxRecDepth 100000 in
theorem lk_9_25 : LkV 9 25 m_Ta_ahead 0 := ⟨lc_Ta_ahead, lwG_in (List.mem_of_getElem? (i := 523) rfl) rfl, lwG_in (List.mem_of_getElem? (i := 495) rfl) rfl, lwG_in (List.mem_of_getElem? (i := 496) rfl) rfl⟩
set_option maxRecDepth 100000 in
theorem B_Ta_demand_0 {Γ : XG} {d : Nat} {Q : Option Value → XM → Prop} {r0 : Nat} {x1 : Int32} {μ : XM} (o_r0_9 : ob μ r0 9) (h : Call Γ m_Ta_ahead d [.ref r0] μ (KI (fun v1 μ1 => ((v1 = x1 → Call Γ m_Ta_pass d [.ref r0] μ1 (KV (fun μ2 => Q (some (.int (w 1))) μ2))) ∧ (¬ v1 = x1 → Call Γ m_Ta_refuse d [.ref r0] μ1 (KI (fun v3 μ3 => ((v3 = w 0 ∨ v3 = w 1) ∧ Q (some (.int v3)) μ3)))))))) : G Γ m_Ta_demand (d + 1) (0, 0) Q 0 [.ref r0, .int x1] [] μ := by
  refine run_ok (pc' := 1) [(.aload_n 0, 0, 0, 0)] _ _ _ _ (by decide +kernel) ?_
  show G Γ m_Ta_demand (d + 1) (0, 0) Q 1 [.ref r0, .int x1] [.ref r0] μ
  refine g_invV (M' := m_Ta_ahead) (b1 := 0) (b2 := 0) (As := []) (a := r0) (st := []) lk_9_25 (by decide +kernel) rfl (dk_Ta_ahead d) (Nat.le_of_ble_eq_true rfl) (Or.inl ⟨9, o_r0_9, rfl⟩) h ?_
  rintro _ μ1 ⟨v1, rfl, h⟩ hn1
  show G Γ m_Ta_demand (d + 1) (0, 0) Q 4 [.ref r0, .int x1] [.int v1] μ1
  refine run_ok (pc' := 5) [(.iload_n 1, 0, 0, 0)] _ _ _ _ (by decide +kernel) ?_
  show G Γ m_Ta_demand (d + 1) (0, 0) Q 5 [.ref r0, .int x1] [.int x1, .int v1] μ1
  refine g_icmp_eq (pc' := 13) (off := 8) (by decide) (by decide +kernel) (fun hc => ?_) (fun hc => ?_)
  · replace h := h.1 hc
    show G Γ m_Ta_demand (d + 1) (0, 0) Q 13 [.ref r0, .int x1] [] μ1
    refine run_ok (pc' := 14) [(.aload_n 0, 0, 0, 0)] _ _ _ _ (by decide +kernel) ?_
    show G Γ m_Ta_demand (d + 1) (0, 0) Q 14 [.ref r0, .int x1] [.ref r0] μ1
    refine g_invV (M' := m_Ta_pass) (b1 := 0) (b2 := 0) (As := []) (a := r0) (st := []) lk_9_33 (by decide +kernel) rfl (dk_Ta_pass d) (Nat.le_of_ble_eq_true rfl) (Or.inl ⟨9, ((o_r0_9).mono hn1), rfl⟩) h ?_
    rintro _ μ2 ⟨rfl, h⟩ hn2
    show G Γ m_Ta_demand (d + 1) (0, 0) Q 17 [.ref r0, .int x1] [] μ2
    refine run_ok (pc' := 18) [(.iconst 1, 0, 0, 0)] _ _ _ _ (by decide +kernel) ?_
    show G Γ m_Ta_demand (d + 1) (0, 0) Q 18 [.ref r0, .int x1] [.int (w 1)] μ2
    exact g_retz (by decide +kernel) rfl (Or.inr rfl) h
  · replace h := h.2 hc
    show G Γ m_Ta_demand (d + 1) (0, 0) Q 8 [.ref r0, .int x1] [] μ1
    refine run_ok (pc' := 9) [(.aload_n 0, 0, 0, 0)] _ _ _ _ (by decide +kernel) ?_
    show G Γ m_Ta_demand (d + 1) (0, 0) Q 9 [.ref r0, .int x1] [.ref r0] μ1
    refine g_invV (M' := m_Ta_refuse) (b1 := 0) (b2 := 0) (As := []) (a := r0) (st := []) lk_9_29 (by decide +kernel) rfl (dk_Ta_refuse d) (Nat.le_of_ble_eq_true rfl) (Or.inl ⟨9, ((o_r0_9).mono hn1), rfl⟩) h ?_
    rintro _ μ3 ⟨v3, rfl, h⟩ hn3
    show G Γ m_Ta_demand (d + 1) (0, 0) Q 12 [.ref r0, .int x1] [.int v3] μ3
    exact g_retz (by decide +kernel) rfl h.1 h.2
/-! FrostBox$Tape digitIsHere()Z -/
set_option maxRecDepth 100000 in
theorem B_Ta_digitIsHere_0 {Γ : XG} {d : Nat} {Q : Option Value → XM → Prop} {r0 r0_0 : Nat} {μ : XM} (o_r0_9 : ob μ r0 9) (e_r0_0 : xR μ r0 0 = some r0_0) (h : ((xI μ r0 2 < xI μ r0 1 → inb μ 0 r0_0 (xI μ r0 2) ∧ ((xI μ r0_0 (xI μ r0 2).toNatClampNeg < w 48 → Q (some (.int (w 0))) μ) ∧ (¬ xI μ r0_0 (xI μ r0 2).toNatClampNeg < w 48 → inb μ 0 r0_0 (xI μ r0 2) ∧ ((w 57 < xI μ r0_0 (xI μ r0 2).toNatClampNeg → Q (some (.int (w 0))) μ) ∧ (¬ w 57 < xI μ r0_0 (xI μ r0 2).toNatClampNeg → Q (some (.int (w 1))) μ))))) ∧ (¬ xI μ r0 2 < xI μ r0 1 → Q (some (.int (w 0))) μ))) : G Γ m_Ta_digitIsHere (d + 1) (0, 0) Q 0 [.ref r0] [] μ := by
  refine run_ok (pc' := 8) [(.aload_n 0, 0, 0, 0), (.getfield 22, 9, 2, 0), (.aload_n 0, 0, 0, 0), (.getfield 19, 9, 1, 0)] _ _ _ _ (by decide +kernel) ?_
  show _ ∧ (_ ∧ (_))
  refine ⟨o_r0_9, o_r0_9, ?_⟩
  show G Γ m_Ta_digitIsHere (d + 1) (0, 0) Q 8 [.ref r0] [.int (xI μ r0 1), .int (xI μ r0 2)] μ
  refine g_icmp_ge (pc' := 43) (off := 35) (by decide) (by decide +kernel) (fun hc => ?_) (fun hc => ?_)
  · replace h := h.2 hc
    show G Γ m_Ta_digitIsHere (d + 1) (0, 0) Q 43 [.ref r0] [] μ
    refine run_ok (pc' := 44) [(.iconst 0, 0, 0, 0)] _ _ _ _ (by decide +kernel) ?_
    show G Γ m_Ta_digitIsHere (d + 1) (0, 0) Q 44 [.ref r0] [.int (w 0)] μ
    exact g_retz (by decide +kernel) rfl (Or.inl rfl) h
  · replace h := h.1 hc
    show G Γ m_Ta_digitIsHere (d + 1) (0, 0) Q 11 [.ref r0] [] μ
    obtain ⟨ib1, h⟩ := h
    refine run_ok (pc' := 22) [(.aload_n 0, 0, 0, 0), (.getfield 9, 9, 0, 2), (.aload_n 0, 0, 0, 0), (.getfield 22, 9, 2, 0), (.iaload, 0, 0, 0), (.bipush 48, 0, 0, 0)] _ _ _ _ (by decide +kernel) ?_
    show _ ∧ (∃ _, _ ∧ (_ ∧ (_ ∧ (_))))
    refine ⟨o_r0_9, r0_0, e_r0_0, o_r0_9, ib1, ?_⟩
    show G Γ m_Ta_digitIsHere (d + 1) (0, 0) Q 22 [.ref r0] [.int (w 48), .int (xI μ r0_0 (xI μ r0 2).toNatClampNeg)] μ
    refine g_icmp_lt (pc' := 43) (off := 21) (by decide) (by decide +kernel) (fun hc => ?_) (fun hc => ?_)
    · replace h := h.1 hc
      show G Γ m_Ta_digitIsHere (d + 1) (0, 0) Q 43 [.ref r0] [] μ
      refine run_ok (pc' := 44) [(.iconst 0, 0, 0, 0)] _ _ _ _ (by decide +kernel) ?_
      show G Γ m_Ta_digitIsHere (d + 1) (0, 0) Q 44 [.ref r0] [.int (w 0)] μ
      exact g_retz (by decide +kernel) rfl (Or.inl rfl) h
    · replace h := h.2 hc
      show G Γ m_Ta_digitIsHere (d + 1) (0, 0) Q 25 [.ref r0] [] μ
      obtain ⟨ib2, h⟩ := h
      refine run_ok (pc' := 36) [(.aload_n 0, 0, 0, 0), (.getfield 9, 9, 0, 2), (.aload_n 0, 0, 0, 0), (.getfield 22, 9, 2, 0), (.iaload, 0, 0, 0), (.bipush 57, 0, 0, 0)] _ _ _ _ (by decide +kernel) ?_
      show _ ∧ (∃ _, _ ∧ (_ ∧ (_ ∧ (_))))
      refine ⟨o_r0_9, r0_0, e_r0_0, o_r0_9, ib2, ?_⟩
      show G Γ m_Ta_digitIsHere (d + 1) (0, 0) Q 36 [.ref r0] [.int (w 57), .int (xI μ r0_0 (xI μ r0 2).toNatClampNeg)] μ
      refine g_icmp_gt (pc' := 43) (off := 7) (by decide) (by decide +kernel) (fun hc => ?_) (fun hc => ?_)
      · replace h := h.1 hc
        show G Γ m_Ta_digitIsHere (d + 1) (0, 0) Q 43 [.ref r0] [] μ
        refine run_ok (pc' := 44) [(.iconst 0, 0, 0, 0)] _ _ _ _ (by decide +kernel) ?_
        show G Γ m_Ta_digitIsHere (d + 1) (0, 0) Q 44 [.ref r0] [.int (w 0)] μ
        exact g_retz (by decide +kernel) rfl (Or.inl rfl) h
      · replace h := h.2 hc
        show G Γ m_Ta_digitIsHere (d + 1) (0, 0) Q 39 [.ref r0] [] μ
        refine run_ok (pc' := 44) [(.iconst 1, 0, 0, 0), (.goto 4, 0, 0, 0)] _ _ _ _ (by decide +kernel) ?_
        show G Γ m_Ta_digitIsHere (d + 1) (0, 0) Q 44 [.ref r0] [.int (w 1)] μ
        exact g_retz (by decide +kernel) rfl (Or.inr rfl) h
/-! FrostBox$Tape digit()I -/
set_option maxRecDepth 100000 in
theorem lk_9_36 : LkV 9 36 m_Ta_digitIsHere 0 := ⟨lc_Ta_digitIsHere, lwG_in (List.mem_of_getElem? (i := 524) rfl) rfl, lwG_in (List.mem_of_getElem? (i := 525) rfl) rfl, lwG_in (List.mem_of_getElem? (i := 526) rfl) rfl⟩
set_option maxRecDepth 100000 in
theorem B_Ta_digit_0 {Γ : XG} {d : Nat} {Q : Option Value → XM → Prop} {r0 : Nat} {μ : XM} (o_r0_9 : ob μ r0 9) (h : Call Γ m_Ta_ahead d [.ref r0] μ (KI (fun v1 μ1 => Call Γ m_Ta_digitIsHere d [.ref r0] μ1 (KI (fun v2 μ2 => ((v2 = w 0 → ∀ μ6, μ6 = sI μ2 r0 3 (xI μ2 r0 2) → Q (some (.int (w (-1)))) μ6) ∧ (¬ v2 = w 0 → ∀ μ3, μ3 = sI μ2 r0 2 ((xI μ2 r0 2) + (w 1)) → ∃ a4, xR μ3 r0 0 = some a4 ∧ inb μ3 0 a4 ((xI μ3 r0 2) - (w 1)) ∧ Q (some (.int ((xI μ3 a4 ((xI μ3 r0 2) - (w 1)).toNatClampNeg) - (w 48)))) μ3))))))) : G Γ m_Ta_digit (d + 1) (0, 0) Q 0 [.ref r0] [] μ := by
  refine run_ok (pc' := 1) [(.aload_n 0, 0, 0, 0)] _ _ _ _ (by decide +kernel) ?_
  show G Γ m_Ta_digit (d + 1) (0, 0) Q 1 [.ref r0] [.ref r0] μ
  refine g_invV (M' := m_Ta_ahead) (b1 := 0) (b2 := 0) (As := []) (a := r0) (st := []) lk_9_25 (by decide +kernel) rfl (dk_Ta_ahead d) (Nat.le_of_ble_eq_true rfl) (Or.inl ⟨9, o_r0_9, rfl⟩) h ?_
  rintro _ μ1 ⟨v1, rfl, h⟩ hn1
  show G Γ m_Ta_digit (d + 1) (0, 0) Q 4 [.ref r0] [.int v1] μ1
  refine run_ok (pc' := 6) [(.pop, 0, 0, 0), (.aload_n 0, 0, 0, 0)] _ _ _ _ (by decide +kernel) ?_
  show G Γ m_Ta_digit (d + 1) (0, 0) Q 6 [.ref r0] [.ref r0] μ1
  refine g_invV (M' := m_Ta_digitIsHere) (b1 := 0) (b2 := 0) (As := []) (a := r0) (st := []) lk_9_36 (by decide +kernel) rfl (dk_Ta_digitIsHere d) (Nat.le_of_ble_eq_true rfl) (Or.inl ⟨9, ((o_r0_9).mono hn1), rfl⟩) h ?_
  rintro _ μ2 ⟨v2, rfl, h⟩ hn2
  show G Γ m_Ta_digit (d + 1) (0, 0) Q 9 [.ref r0] [.int v2] μ2
  refine g_ifz_ne (pc' := 22) (off := 13) (by decide) (by decide +kernel) (fun hc => ?_) (fun hc => ?_)
  · replace h := h.2 hc
    show G Γ m_Ta_digit (d + 1) (0, 0) Q 22 [.ref r0] [] μ2
    refine run_ok (pc' := 32) [(.aload_n 0, 0, 0, 0), (.dup, 0, 0, 0), (.getfield 22, 9, 2, 0), (.iconst 1, 0, 0, 0), (.iadd, 0, 0, 0), (.putfield 22, 9, 2, 0)] _ _ _ _ (by decide +kernel) ?_
    show _ ∧ (_ ∧ (_))
    refine ⟨(((o_r0_9).mono hn1).mono hn2), (((o_r0_9).mono hn1).mono hn2), ?_⟩
    show G Γ m_Ta_digit (d + 1) (0, 0) Q 32 [.ref r0] [] (sI μ2 r0 2 ((xI μ2 r0 2) + (w 1)))
    obtain ⟨μ3, em3⟩ : ∃ m : XM, m = sI μ2 r0 2 ((xI μ2 r0 2) + (w 1)) := ⟨_, rfl⟩
    replace h := h μ3 em3
    have hm3 : xN μ2 ≤ xN μ3 := by rw [em3]; exact Nat.le_refl _
    rw [← em3]
    obtain ⟨a4, ea4, h⟩ := h
    obtain ⟨ib5, h⟩ := h
    refine run_ok (pc' := 46) [(.aload_n 0, 0, 0, 0), (.getfield 9, 9, 0, 2), (.aload_n 0, 0, 0, 0), (.getfield 22, 9, 2, 0), (.iconst 1, 0, 0, 0), (.isub, 0, 0, 0), (.iaload, 0, 0, 0), (.bipush 48, 0, 0, 0), (.isub, 0, 0, 0)] _ _ _ _ (by decide +kernel) ?_
    show _ ∧ (∃ _, _ ∧ (_ ∧ (_ ∧ (_))))
    refine ⟨((((o_r0_9).mono hn1).mono hn2).mono hm3), a4, ea4, ((((o_r0_9).mono hn1).mono hn2).mono hm3), ib5, ?_⟩
    show G Γ m_Ta_digit (d + 1) (0, 0) Q 46 [.ref r0] [.int ((xI μ3 a4 ((xI μ3 r0 2) - (w 1)).toNatClampNeg) - (w 48))] μ3
    exact g_reti (by decide +kernel) rfl h
  · replace h := h.1 hc
    show G Γ m_Ta_digit (d + 1) (0, 0) Q 12 [.ref r0] [] μ2
    refine run_ok (pc' := 20) [(.aload_n 0, 0, 0, 0), (.aload_n 0, 0, 0, 0), (.getfield 22, 9, 2, 0), (.putfield 15, 9, 3, 0)] _ _ _ _ (by decide +kernel) ?_
    show _ ∧ (_ ∧ (_))
    refine ⟨(((o_r0_9).mono hn1).mono hn2), (((o_r0_9).mono hn1).mono hn2), ?_⟩
    show G Γ m_Ta_digit (d + 1) (0, 0) Q 20 [.ref r0] [] (sI μ2 r0 3 (xI μ2 r0 2))
    obtain ⟨μ6, em6⟩ : ∃ m : XM, m = sI μ2 r0 3 (xI μ2 r0 2) := ⟨_, rfl⟩
    replace h := h μ6 em6
    have hm6 : xN μ2 ≤ xN μ6 := by rw [em6]; exact Nat.le_refl _
    rw [← em6]
    refine run_ok (pc' := 21) [(.iconst (-1), 0, 0, 0)] _ _ _ _ (by decide +kernel) ?_
    show G Γ m_Ta_digit (d + 1) (0, 0) Q 21 [.ref r0] [.int (w (-1))] μ6
    exact g_reti (by decide +kernel) rfl h
/-! FrostBox$Tape number(I)I -/
set_option maxRecDepth 100000 in
theorem B_Ta_number_0 {Γ : XG} {d : Nat} {Q : Option Value → XM → Prop} {r0 : Nat} {x1 : Int32} {μ : XM} (o_r0_9 : ob μ r0 9) (h : Call Γ m_Ta_ahead d [.ref r0] μ (KI (fun v1 μ1 => G Γ m_Ta_number (d + 1) (0, 0) Q 9 [.ref r0, .int x1, .int (w 0), .int (w 0)] [] μ1))) : G Γ m_Ta_number (d + 1) (0, 0) Q 0 [.ref r0, .int x1] [] μ := by
  refine run_ok (pc' := 1) [(.aload_n 0, 0, 0, 0)] _ _ _ _ (by decide +kernel) ?_
  show G Γ m_Ta_number (d + 1) (0, 0) Q 1 [.ref r0, .int x1] [.ref r0] μ
  refine g_invV (M' := m_Ta_ahead) (b1 := 0) (b2 := 0) (As := []) (a := r0) (st := []) lk_9_25 (by decide +kernel) rfl (dk_Ta_ahead d) (Nat.le_of_ble_eq_true rfl) (Or.inl ⟨9, o_r0_9, rfl⟩) h ?_
  rintro _ μ1 ⟨v1, rfl, h⟩ hn1
  show G Γ m_Ta_number (d + 1) (0, 0) Q 4 [.ref r0, .int x1] [.int v1] μ1
  refine run_ok (pc' := 9) [(.pop, 0, 0, 0), (.iconst 0, 0, 0, 0), (.istore_n 2, 0, 0, 0), (.iconst 0, 0, 0, 0), (.istore_n 3, 0, 0, 0)] _ _ _ _ (by decide +kernel) ?_
  show G Γ m_Ta_number (d + 1) (0, 0) Q 9 [.ref r0, .int x1, .int (w 0), .int (w 0)] [] μ1
  exact h
set_option maxRecDepth 100000 in
theorem B_Ta_number_9 {Γ : XG} {d : Nat} {Q : Option Value → XM → Prop} {r0 : Nat} {x1 x2 x3 : Int32} {μ : XM} (o_r0_9 : ob μ r0 9) (h : ((x3 < x1 → Call Γ m_Ta_digitIsHere d [.ref r0] μ (KI (fun v4 μ4 => ((v4 = w 0 → ((x3 = w 0 → ∀ μ5, μ5 = sI μ4 r0 3 (xI μ4 r0 2) → Q (some (.int (w (-1)))) μ5) ∧ (¬ x3 = w 0 → Call Γ m_Ta_digitIsHere d [.ref r0] μ4 (KI (fun v6 μ6 => ((v6 = w 0 → Q (some (.int x2)) μ6) ∧ (¬ v6 = w 0 → ∀ μ7, μ7 = sI μ6 r0 3 (xI μ6 r0 2) → Q (some (.int (w (-1)))) μ7))))))) ∧ (¬ v4 = w 0 → ∃ a8, xR μ4 r0 0 = some a8 ∧ inb μ4 0 a8 (xI μ4 r0 2) ∧ ∀ μ10, μ10 = sI μ4 r0 2 ((xI μ4 r0 2) + (w 1)) → G Γ m_Ta_number (d + 1) (0, 0) Q 9 [.ref r0, .int x1, .int (((x2 * (w 10)) + (xI μ4 a8 (xI μ4 r0 2).toNatClampNeg)) - (w 48)), .int (x3 + w 1)] [] μ10))))) ∧ (¬ x3 < x1 → ((x3 = w 0 → ∀ μ1, μ1 = sI μ r0 3 (xI μ r0 2) → Q (some (.int (w (-1)))) μ1) ∧ (¬ x3 = w 0 → Call Γ m_Ta_digitIsHere d [.ref r0] μ (KI (fun v2 μ2 => ((v2 = w 0 → Q (some (.int x2)) μ2) ∧ (¬ v2 = w 0 → ∀ μ3, μ3 = sI μ2 r0 3 (xI μ2 r0 2) → Q (some (.int (w (-1)))) μ3))))))))) : G Γ m_Ta_number (d + 1) (0, 0) Q 9 [.ref r0, .int x1, .int x2, .int x3] [] μ := by
  refine run_ok (pc' := 11) [(.iload_n 3, 0, 0, 0), (.iload_n 1, 0, 0, 0)] _ _ _ _ (by decide +kernel) ?_
  show G Γ m_Ta_number (d + 1) (0, 0) Q 11 [.ref r0, .int x1, .int x2, .int x3] [.int x1, .int x3] μ
  refine g_icmp_ge (pc' := 55) (off := 44) (by decide) (by decide +kernel) (fun hc => ?_) (fun hc => ?_)
  · replace h := h.2 hc
    show G Γ m_Ta_number (d + 1) (0, 0) Q 55 [.ref r0, .int x1, .int x2, .int x3] [] μ
    refine run_ok (pc' := 56) [(.iload_n 3, 0, 0, 0)] _ _ _ _ (by decide +kernel) ?_
    show G Γ m_Ta_number (d + 1) (0, 0) Q 56 [.ref r0, .int x1, .int x2, .int x3] [.int x3] μ
    refine g_ifz_eq (pc' := 66) (off := 10) (by decide) (by decide +kernel) (fun hc => ?_) (fun hc => ?_)
    · replace h := h.1 hc
      show G Γ m_Ta_number (d + 1) (0, 0) Q 66 [.ref r0, .int x1, .int x2, .int x3] [] μ
      refine run_ok (pc' := 74) [(.aload_n 0, 0, 0, 0), (.aload_n 0, 0, 0, 0), (.getfield 22, 9, 2, 0), (.putfield 15, 9, 3, 0)] _ _ _ _ (by decide +kernel) ?_
      show _ ∧ (_ ∧ (_))
      refine ⟨o_r0_9, o_r0_9, ?_⟩
      show G Γ m_Ta_number (d + 1) (0, 0) Q 74 [.ref r0, .int x1, .int x2, .int x3] [] (sI μ r0 3 (xI μ r0 2))
      obtain ⟨μ1, em1⟩ : ∃ m : XM, m = sI μ r0 3 (xI μ r0 2) := ⟨_, rfl⟩
      replace h := h μ1 em1
      have hm1 : xN μ ≤ xN μ1 := by rw [em1]; exact Nat.le_refl _
      rw [← em1]
      refine run_ok (pc' := 75) [(.iconst (-1), 0, 0, 0)] _ _ _ _ (by decide +kernel) ?_
      show G Γ m_Ta_number (d + 1) (0, 0) Q 75 [.ref r0, .int x1, .int x2, .int x3] [.int (w (-1))] μ1
      exact g_reti (by decide +kernel) rfl h
    · replace h := h.2 hc
      show G Γ m_Ta_number (d + 1) (0, 0) Q 59 [.ref r0, .int x1, .int x2, .int x3] [] μ
      refine run_ok (pc' := 60) [(.aload_n 0, 0, 0, 0)] _ _ _ _ (by decide +kernel) ?_
      show G Γ m_Ta_number (d + 1) (0, 0) Q 60 [.ref r0, .int x1, .int x2, .int x3] [.ref r0] μ
      refine g_invV (M' := m_Ta_digitIsHere) (b1 := 0) (b2 := 0) (As := []) (a := r0) (st := []) lk_9_36 (by decide +kernel) rfl (dk_Ta_digitIsHere d) (Nat.le_of_ble_eq_true rfl) (Or.inl ⟨9, o_r0_9, rfl⟩) h ?_
      rintro _ μ2 ⟨v2, rfl, h⟩ hn2
      show G Γ m_Ta_number (d + 1) (0, 0) Q 63 [.ref r0, .int x1, .int x2, .int x3] [.int v2] μ2
      refine g_ifz_eq (pc' := 76) (off := 13) (by decide) (by decide +kernel) (fun hc => ?_) (fun hc => ?_)
      · replace h := h.1 hc
        show G Γ m_Ta_number (d + 1) (0, 0) Q 76 [.ref r0, .int x1, .int x2, .int x3] [] μ2
        refine run_ok (pc' := 77) [(.iload_n 2, 0, 0, 0)] _ _ _ _ (by decide +kernel) ?_
        show G Γ m_Ta_number (d + 1) (0, 0) Q 77 [.ref r0, .int x1, .int x2, .int x3] [.int x2] μ2
        exact g_reti (by decide +kernel) rfl h
      · replace h := h.2 hc
        show G Γ m_Ta_number (d + 1) (0, 0) Q 66 [.ref r0, .int x1, .int x2, .int x3] [] μ2
        refine run_ok (pc' := 74) [(.aload_n 0, 0, 0, 0), (.aload_n 0, 0, 0, 0), (.getfield 22, 9, 2, 0), (.putfield 15, 9, 3, 0)] _ _ _ _ (by decide +kernel) ?_
        show _ ∧ (_ ∧ (_))
        refine ⟨((o_r0_9).mono hn2), ((o_r0_9).mono hn2), ?_⟩
        show G Γ m_Ta_number (d + 1) (0, 0) Q 74 [.ref r0, .int x1, .int x2, .int x3] [] (sI μ2 r0 3 (xI μ2 r0 2))
        obtain ⟨μ3, em3⟩ : ∃ m : XM, m = sI μ2 r0 3 (xI μ2 r0 2) := ⟨_, rfl⟩
        replace h := h μ3 em3
        have hm3 : xN μ2 ≤ xN μ3 := by rw [em3]; exact Nat.le_refl _
        rw [← em3]
        refine run_ok (pc' := 75) [(.iconst (-1), 0, 0, 0)] _ _ _ _ (by decide +kernel) ?_
        show G Γ m_Ta_number (d + 1) (0, 0) Q 75 [.ref r0, .int x1, .int x2, .int x3] [.int (w (-1))] μ3
        exact g_reti (by decide +kernel) rfl h
  · replace h := h.1 hc
    show G Γ m_Ta_number (d + 1) (0, 0) Q 14 [.ref r0, .int x1, .int x2, .int x3] [] μ
    refine run_ok (pc' := 15) [(.aload_n 0, 0, 0, 0)] _ _ _ _ (by decide +kernel) ?_
    show G Γ m_Ta_number (d + 1) (0, 0) Q 15 [.ref r0, .int x1, .int x2, .int x3] [.ref r0] μ
    refine g_invV (M' := m_Ta_digitIsHere) (b1 := 0) (b2 := 0) (As := []) (a := r0) (st := []) lk_9_36 (by decide +kernel) rfl (dk_Ta_digitIsHere d) (Nat.le_of_ble_eq_true rfl) (Or.inl ⟨9, o_r0_9, rfl⟩) h ?_
    rintro _ μ4 ⟨v4, rfl, h⟩ hn4
    show G Γ m_Ta_number (d + 1) (0, 0) Q 18 [.ref r0, .int x1, .int x2, .int x3] [.int v4] μ4
    refine g_ifz_eq (pc' := 55) (off := 37) (by decide) (by decide +kernel) (fun hc => ?_) (fun hc => ?_)
    · replace h := h.1 hc
      show G Γ m_Ta_number (d + 1) (0, 0) Q 55 [.ref r0, .int x1, .int x2, .int x3] [] μ4
      refine run_ok (pc' := 56) [(.iload_n 3, 0, 0, 0)] _ _ _ _ (by decide +kernel) ?_
      show G Γ m_Ta_number (d + 1) (0, 0) Q 56 [.ref r0, .int x1, .int x2, .int x3] [.int x3] μ4
      refine g_ifz_eq (pc' := 66) (off := 10) (by decide) (by decide +kernel) (fun hc => ?_) (fun hc => ?_)
      · replace h := h.1 hc
        show G Γ m_Ta_number (d + 1) (0, 0) Q 66 [.ref r0, .int x1, .int x2, .int x3] [] μ4
        refine run_ok (pc' := 74) [(.aload_n 0, 0, 0, 0), (.aload_n 0, 0, 0, 0), (.getfield 22, 9, 2, 0), (.putfield 15, 9, 3, 0)] _ _ _ _ (by decide +kernel) ?_
        show _ ∧ (_ ∧ (_))
        refine ⟨((o_r0_9).mono hn4), ((o_r0_9).mono hn4), ?_⟩
        show G Γ m_Ta_number (d + 1) (0, 0) Q 74 [.ref r0, .int x1, .int x2, .int x3] [] (sI μ4 r0 3 (xI μ4 r0 2))
        obtain ⟨μ5, em5⟩ : ∃ m : XM, m = sI μ4 r0 3 (xI μ4 r0 2) := ⟨_, rfl⟩
        replace h := h μ5 em5
        have hm5 : xN μ4 ≤ xN μ5 := by rw [em5]; exact Nat.le_refl _
        rw [← em5]
        refine run_ok (pc' := 75) [(.iconst (-1), 0, 0, 0)] _ _ _ _ (by decide +kernel) ?_
        show G Γ m_Ta_number (d + 1) (0, 0) Q 75 [.ref r0, .int x1, .int x2, .int x3] [.int (w (-1))] μ5
        exact g_reti (by decide +kernel) rfl h
      · replace h := h.2 hc
        show G Γ m_Ta_number (d + 1) (0, 0) Q 59 [.ref r0, .int x1, .int x2, .int x3] [] μ4
        refine run_ok (pc' := 60) [(.aload_n 0, 0, 0, 0)] _ _ _ _ (by decide +kernel) ?_
        show G Γ m_Ta_number (d + 1) (0, 0) Q 60 [.ref r0, .int x1, .int x2, .int x3] [.ref r0] μ4
        refine g_invV (M' := m_Ta_digitIsHere) (b1 := 0) (b2 := 0) (As := []) (a := r0) (st := []) lk_9_36 (by decide +kernel) rfl (dk_Ta_digitIsHere d) (Nat.le_of_ble_eq_true rfl) (Or.inl ⟨9, ((o_r0_9).mono hn4), rfl⟩) h ?_
        rintro _ μ6 ⟨v6, rfl, h⟩ hn6
        show G Γ m_Ta_number (d + 1) (0, 0) Q 63 [.ref r0, .int x1, .int x2, .int x3] [.int v6] μ6
        refine g_ifz_eq (pc' := 76) (off := 13) (by decide) (by decide +kernel) (fun hc => ?_) (fun hc => ?_)
        · replace h := h.1 hc
          show G Γ m_Ta_number (d + 1) (0, 0) Q 76 [.ref r0, .int x1, .int x2, .int x3] [] μ6
          refine run_ok (pc' := 77) [(.iload_n 2, 0, 0, 0)] _ _ _ _ (by decide +kernel) ?_
          show G Γ m_Ta_number (d + 1) (0, 0) Q 77 [.ref r0, .int x1, .int x2, .int x3] [.int x2] μ6
          exact g_reti (by decide +kernel) rfl h
        · replace h := h.2 hc
          show G Γ m_Ta_number (d + 1) (0, 0) Q 66 [.ref r0, .int x1, .int x2, .int x3] [] μ6
          refine run_ok (pc' := 74) [(.aload_n 0, 0, 0, 0), (.aload_n 0, 0, 0, 0), (.getfield 22, 9, 2, 0), (.putfield 15, 9, 3, 0)] _ _ _ _ (by decide +kernel) ?_
          show _ ∧ (_ ∧ (_))
          refine ⟨(((o_r0_9).mono hn4).mono hn6), (((o_r0_9).mono hn4).mono hn6), ?_⟩
          show G Γ m_Ta_number (d + 1) (0, 0) Q 74 [.ref r0, .int x1, .int x2, .int x3] [] (sI μ6 r0 3 (xI μ6 r0 2))
          obtain ⟨μ7, em7⟩ : ∃ m : XM, m = sI μ6 r0 3 (xI μ6 r0 2) := ⟨_, rfl⟩
          replace h := h μ7 em7
          have hm7 : xN μ6 ≤ xN μ7 := by rw [em7]; exact Nat.le_refl _
          rw [← em7]
          refine run_ok (pc' := 75) [(.iconst (-1), 0, 0, 0)] _ _ _ _ (by decide +kernel) ?_
          show G Γ m_Ta_number (d + 1) (0, 0) Q 75 [.ref r0, .int x1, .int x2, .int x3] [.int (w (-1))] μ7
          exact g_reti (by decide +kernel) rfl h
    · replace h := h.2 hc
      show G Γ m_Ta_number (d + 1) (0, 0) Q 21 [.ref r0, .int x1, .int x2, .int x3] [] μ4
      obtain ⟨a8, ea8, h⟩ := h
      obtain ⟨ib9, h⟩ := h
      refine run_ok (pc' := 52) [(.iload_n 2, 0, 0, 0), (.bipush 10, 0, 0, 0), (.imul, 0, 0, 0), (.aload_n 0, 0, 0, 0), (.getfield 9, 9, 0, 2), (.aload_n 0, 0, 0, 0), (.getfield 22, 9, 2, 0), (.iaload, 0, 0, 0), (.iadd, 0, 0, 0), (.bipush 48, 0, 0, 0), (.isub, 0, 0, 0), (.istore_n 2, 0, 0, 0), (.iinc 3 1, 0, 0, 0), (.aload_n 0, 0, 0, 0), (.dup, 0, 0, 0), (.getfield 22, 9, 2, 0), (.iconst 1, 0, 0, 0), (.iadd, 0, 0, 0), (.putfield 22, 9, 2, 0)] _ _ _ _ (by decide +kernel) ?_
      show _ ∧ (∃ _, _ ∧ (_ ∧ (_ ∧ (_ ∧ (_ ∧ (_))))))
      refine ⟨((o_r0_9).mono hn4), a8, ea8, ((o_r0_9).mono hn4), ib9, ((o_r0_9).mono hn4), ((o_r0_9).mono hn4), ?_⟩
      show G Γ m_Ta_number (d + 1) (0, 0) Q 52 [.ref r0, .int x1, .int (((x2 * (w 10)) + (xI μ4 a8 (xI μ4 r0 2).toNatClampNeg)) - (w 48)), .int (x3 + w 1)] [] (sI μ4 r0 2 ((xI μ4 r0 2) + (w 1)))
      obtain ⟨μ10, em10⟩ : ∃ m : XM, m = sI μ4 r0 2 ((xI μ4 r0 2) + (w 1)) := ⟨_, rfl⟩
      replace h := h μ10 em10
      have hm10 : xN μ4 ≤ xN μ10 := by rw [em10]; exact Nat.le_refl _
      rw [← em10]
      refine run_ok (pc' := 9) [(.goto (-43), 0, 0, 0)] _ _ _ _ (by decide +kernel) ?_
      show G Γ m_Ta_number (d + 1) (0, 0) Q 9 [.ref r0, .int x1, .int (((x2 * (w 10)) + (xI μ4 a8 (xI μ4 r0 2).toNatClampNeg)) - (w 48)), .int (x3 + w 1)] [] μ10
      exact h
