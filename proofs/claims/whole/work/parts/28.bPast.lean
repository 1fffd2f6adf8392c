/-! FrostBox$Past add(IIZ)V -/
set_option maxRecDepth 100000 in
theorem B_Pa_add_0 {Γ : XG} {d : Nat} {Q : Option Value → XM → Prop} {r0 r0_0 r0_1 r0_2 : Nat} {x1 x2 x3 : Int32} {μ : XM} (o_r0_5 : ob μ r0 5) (e_r0_0 : xR μ r0 0 = some r0_0) (e_r0_1 : xR μ r0 1 = some r0_1) (e_r0_2 : xR μ r0 2 = some r0_2) (h : ((xI μ r0 5 < w 10 → inS μ 0 r0_0 (xI μ r0 5) ∧ ∀ μ2, μ2 = sI μ r0_0 (xI μ r0 5).toNatClampNeg x1 → inS μ2 0 r0_1 (xI μ2 r0 5) ∧ ∀ μ4, μ4 = sI μ2 r0_1 (xI μ2 r0 5).toNatClampNeg x2 → inS μ4 2 r0_2 (xI μ4 r0 5) ∧ (x3 = w 0 ∨ x3 = w 1) ∧ ∀ μ6, μ6 = sI μ4 r0_2 (xI μ4 r0 5).toNatClampNeg x3 → ∀ μ7, μ7 = sI μ6 r0 5 ((xI μ6 r0 5) + (w 1)) → Q none μ7) ∧ (¬ xI μ r0 5 < w 10 → Q none μ))) : G Γ m_Pa_add (d + 1) (0, 0) Q 0 [.ref r0, .int x1, .int x2, .int x3] [] μ := by
  refine run_ok (pc' := 6) [(.aload_n 0, 0, 0, 0), (.getfield 28, 5, 5, 0), (.bipush 10, 0, 0, 0)] _ _ _ _ (by decide +kernel) ?_
  show _ ∧ (_)
  refine ⟨o_r0_5, ?_⟩
  show G Γ m_Pa_add (d + 1) (0, 0) Q 6 [.ref r0, .int x1, .int x2, .int x3] [.int (w 10), .int (xI μ r0 5)] μ
  refine g_icmp_ge (pc' := 49) (off := 43) (by decide) (by decide +kernel) (fun hc => ?_) (fun hc => ?_)
  · replace h := h.2 hc
    show G Γ m_Pa_add (d + 1) (0, 0) Q 49 [.ref r0, .int x1, .int x2, .int x3] [] μ
    exact g_retv (by decide +kernel) rfl h
  · replace h := h.1 hc
    show G Γ m_Pa_add (d + 1) (0, 0) Q 9 [.ref r0, .int x1, .int x2, .int x3] [] μ
    obtain ⟨is1, h⟩ := h
    refine run_ok (pc' := 19) [(.aload_n 0, 0, 0, 0), (.getfield 9, 5, 0, 2), (.aload_n 0, 0, 0, 0), (.getfield 28, 5, 5, 0), (.iload_n 1, 0, 0, 0), (.iastore, 0, 0, 0)] _ _ _ _ (by decide +kernel) ?_
    show _ ∧ (∃ _, _ ∧ (_ ∧ (_ ∧ (_))))
    refine ⟨o_r0_5, r0_0, e_r0_0, o_r0_5, is1, ?_⟩
    show G Γ m_Pa_add (d + 1) (0, 0) Q 19 [.ref r0, .int x1, .int x2, .int x3] [] (sI μ r0_0 (xI μ r0 5).toNatClampNeg x1)
    obtain ⟨μ2, em2⟩ : ∃ m : XM, m = sI μ r0_0 (xI μ r0 5).toNatClampNeg x1 := ⟨_, rfl⟩
    replace h := h μ2 em2
    have hm2 : xN μ ≤ xN μ2 := by rw [em2]; exact Nat.le_refl _
    rw [← em2]
    obtain ⟨is3, h⟩ := h
    refine run_ok (pc' := 29) [(.aload_n 0, 0, 0, 0), (.getfield 15, 5, 1, 2), (.aload_n 0, 0, 0, 0), (.getfield 28, 5, 5, 0), (.iload_n 2, 0, 0, 0), (.iastore, 0, 0, 0)] _ _ _ _ (by decide +kernel) ?_
    show _ ∧ (∃ _, _ ∧ (_ ∧ (_ ∧ (_))))
    refine ⟨((o_r0_5).mono hm2), r0_1, (by rw [em2]; exact e_r0_1), ((o_r0_5).mono hm2), is3, ?_⟩
    show G Γ m_Pa_add (d + 1) (0, 0) Q 29 [.ref r0, .int x1, .int x2, .int x3] [] (sI μ2 r0_1 (xI μ2 r0 5).toNatClampNeg x2)
    obtain ⟨μ4, em4⟩ : ∃ m : XM, m = sI μ2 r0_1 (xI μ2 r0 5).toNatClampNeg x2 := ⟨_, rfl⟩
    replace h := h μ4 em4
    have hm4 : xN μ2 ≤ xN μ4 := by rw [em4]; exact Nat.le_refl _
    rw [← em4]
    obtain ⟨is5, h⟩ := h
    obtain ⟨zb5, h⟩ := h
    refine run_ok (pc' := 39) [(.aload_n 0, 0, 0, 0), (.getfield 18, 5, 2, 2), (.aload_n 0, 0, 0, 0), (.getfield 28, 5, 5, 0), (.iload_n 3, 0, 0, 0), (.bastore, 2, 0, 0)] _ _ _ _ (by decide +kernel) ?_
    show _ ∧ (∃ _, _ ∧ (_ ∧ (_ ∧ (_ ∧ (_)))))
    refine ⟨(((o_r0_5).mono hm2).mono hm4), r0_2, (by rw [em4]; exact (by rw [em2]; exact e_r0_2)), (((o_r0_5).mono hm2).mono hm4), is5, zb5, ?_⟩
    show G Γ m_Pa_add (d + 1) (0, 0) Q 39 [.ref r0, .int x1, .int x2, .int x3] [] (sI μ4 r0_2 (xI μ4 r0 5).toNatClampNeg x3)
    obtain ⟨μ6, em6⟩ : ∃ m : XM, m = sI μ4 r0_2 (xI μ4 r0 5).toNatClampNeg x3 := ⟨_, rfl⟩
    replace h := h μ6 em6
    have hm6 : xN μ4 ≤ xN μ6 := by rw [em6]; exact Nat.le_refl _
    rw [← em6]
    refine run_ok (pc' := 49) [(.aload_n 0, 0, 0, 0), (.dup, 0, 0, 0), (.getfield 28, 5, 5, 0), (.iconst 1, 0, 0, 0), (.iadd, 0, 0, 0), (.putfield 28, 5, 5, 0)] _ _ _ _ (by decide +kernel) ?_
    show _ ∧ (_ ∧ (_))
    refine ⟨((((o_r0_5).mono hm2).mono hm4).mono hm6), ((((o_r0_5).mono hm2).mono hm4).mono hm6), ?_⟩
    show G Γ m_Pa_add (d + 1) (0, 0) Q 49 [.ref r0, .int x1, .int x2, .int x3] [] (sI μ6 r0 5 ((xI μ6 r0 5) + (w 1)))
    obtain ⟨μ7, em7⟩ : ∃ m : XM, m = sI μ6 r0 5 ((xI μ6 r0 5) + (w 1)) := ⟨_, rfl⟩
    replace h := h μ7 em7
    have hm7 : xN μ6 ≤ xN μ7 := by rw [em7]; exact Nat.le_refl _
    rw [← em7]
    exact g_retv (by decide +kernel) rfl h
/-! FrostBox$Past startRows(II)Z -/
set_option maxRecDepth 100000 in
theorem B_Pa_startRows_0 {Γ : XG} {d : Nat} {Q : Option Value → XM → Prop} {r0 : Nat} {x1 x2 : Int32} {μ : XM}  (h : ((x1 < w 0 → Q (some (.int (w 0))) μ) ∧ (¬ x1 < w 0 → ((w 999999 < x1 → Q (some (.int (w 0))) μ) ∧ (¬ w 999999 < x1 → G Γ m_Pa_startRows (d + 1) (0, 0) Q 21 [.ref r0, jk, .int x2, .int x1, .int (w 6), .int (w 5)] [] μ))))) : G Γ m_Pa_startRows (d + 1) (0, 0) Q 0 [.ref r0, .int x1, .int x2] [] μ := by
  refine run_ok (pc' := 1) [(.iload_n 1, 0, 0, 0)] _ _ _ _ (by decide +kernel) ?_
  show G Γ m_Pa_startRows (d + 1) (0, 0) Q 1 [.ref r0, .int x1, .int x2] [.int x1] μ
  refine g_ifz_lt (pc' := 10) (off := 9) (by decide) (by decide +kernel) (fun hc => ?_) (fun hc => ?_)
  · replace h := h.1 hc
    show G Γ m_Pa_startRows (d + 1) (0, 0) Q 10 [.ref r0, .int x1, .int x2] [] μ
    refine run_ok (pc' := 11) [(.iconst 0, 0, 0, 0)] _ _ _ _ (by decide +kernel) ?_
    show G Γ m_Pa_startRows (d + 1) (0, 0) Q 11 [.ref r0, .int x1, .int x2] [.int (w 0)] μ
    exact g_retz (by decide +kernel) rfl (Or.inl rfl) h
  · replace h := h.2 hc
    show G Γ m_Pa_startRows (d + 1) (0, 0) Q 4 [.ref r0, .int x1, .int x2] [] μ
    refine run_ok (pc' := 7) [(.iload_n 1, 0, 0, 0), (.ldc 32, 0, 0, 999999)] _ _ _ _ (by decide +kernel) ?_
    show G Γ m_Pa_startRows (d + 1) (0, 0) Q 7 [.ref r0, .int x1, .int x2] [.int (w 999999), .int x1] μ
    refine g_icmp_le (pc' := 12) (off := 5) (by decide) (by decide +kernel) (fun hc => ?_) (fun hc => ?_)
    · replace h := h.2 hc
      show G Γ m_Pa_startRows (d + 1) (0, 0) Q 12 [.ref r0, .int x1, .int x2] [] μ
      refine run_ok (pc' := 21) [(.iload_n 1, 0, 0, 0), (.istore_n 3, 0, 0, 0), (.bipush 6, 0, 0, 0), (.istore 4, 0, 0, 0), (.iconst 5, 0, 0, 0), (.istore 5, 0, 0, 0)] _ _ _ _ (by decide +kernel) ?_
      show G Γ m_Pa_startRows (d + 1) (0, 0) Q 21 [.ref r0, .int x1, .int x2, .int x1, .int (w 6), .int (w 5)] [] μ
      exact g_wk (ls' := [.ref r0, jk, .int x2, .int x1, .int (w 6), .int (w 5)]) ⟨Or.inr rfl, Or.inl rfl, Or.inr rfl, Or.inr rfl, Or.inr rfl, Or.inr rfl, trivial⟩ h
    · replace h := h.1 hc
      show G Γ m_Pa_startRows (d + 1) (0, 0) Q 10 [.ref r0, .int x1, .int x2] [] μ
      refine run_ok (pc' := 11) [(.iconst 0, 0, 0, 0)] _ _ _ _ (by decide +kernel) ?_
      show G Γ m_Pa_startRows (d + 1) (0, 0) Q 11 [.ref r0, .int x1, .int x2] [.int (w 0)] μ
      exact g_retz (by decide +kernel) rfl (Or.inl rfl) h
set_option maxRecDepth 100000 in
theorem B_Pa_startRows_21 {Γ : XG} {d : Nat} {Q : Option Value → XM → Prop} {r0 : Nat} {x2 x3 x4 x5 : Int32} {μ : XM}  (h : ((x5 < w 0 → ((x4 = w 0 → Q (some (.int (w 1))) μ) ∧ (¬ x4 = w 0 → Q (some (.int (w 0))) μ))) ∧ (¬ x5 < w 0 → ¬ (w 10) = 0 ∧ ¬ (w 10) = 0 ∧ ((x4 < x3 - x3 / (w 10) * (w 10) → Q (some (.int (w 0))) μ) ∧ (¬ x4 < x3 - x3 / (w 10) * (w 10) → ((w 0 < x3 - x3 / (w 10) * (w 10) → ((x5 < x2 → G Γ m_Pa_startRows (d + 1) (0, 0) Q 60 [.ref r0, jk, .int x2, .int (x3 / (w 10)), .int x4, .int x5, .int (x3 - x3 / (w 10) * (w 10)), .int (w 0)] [] μ) ∧ (¬ x5 < x2 → Q (some (.int (w 0))) μ))) ∧ (¬ w 0 < x3 - x3 / (w 10) * (w 10) → G Γ m_Pa_startRows (d + 1) (0, 0) Q 60 [.ref r0, jk, .int x2, .int (x3 / (w 10)), .int x4, .int x5, .int (x3 - x3 / (w 10) * (w 10)), .int (w 0)] [] μ))))))) : G Γ m_Pa_startRows (d + 1) (0, 0) Q 21 [.ref r0, jk, .int x2, .int x3, .int x4, .int x5] [] μ := by
  refine run_ok (pc' := 23) [(.iload 5, 0, 0, 0)] _ _ _ _ (by decide +kernel) ?_
  show G Γ m_Pa_startRows (d + 1) (0, 0) Q 23 [.ref r0, jk, .int x2, .int x3, .int x4, .int x5] [.int x5] μ
  refine g_ifz_lt (pc' := 91) (off := 68) (by decide) (by decide +kernel) (fun hc => ?_) (fun hc => ?_)
  · replace h := h.1 hc
    show G Γ m_Pa_startRows (d + 1) (0, 0) Q 91 [.ref r0, jk, .int x2, .int x3, .int x4, .int x5] [] μ
    refine run_ok (pc' := 93) [(.iload 4, 0, 0, 0)] _ _ _ _ (by decide +kernel) ?_
    show G Γ m_Pa_startRows (d + 1) (0, 0) Q 93 [.ref r0, jk, .int x2, .int x3, .int x4, .int x5] [.int x4] μ
    refine g_ifz_ne (pc' := 100) (off := 7) (by decide) (by decide +kernel) (fun hc => ?_) (fun hc => ?_)
    · replace h := h.2 hc
      show G Γ m_Pa_startRows (d + 1) (0, 0) Q 100 [.ref r0, jk, .int x2, .int x3, .int x4, .int x5] [] μ
      refine run_ok (pc' := 101) [(.iconst 0, 0, 0, 0)] _ _ _ _ (by decide +kernel) ?_
      show G Γ m_Pa_startRows (d + 1) (0, 0) Q 101 [.ref r0, jk, .int x2, .int x3, .int x4, .int x5] [.int (w 0)] μ
      exact g_retz (by decide +kernel) rfl (Or.inl rfl) h
    · replace h := h.1 hc
      show G Γ m_Pa_startRows (d + 1) (0, 0) Q 96 [.ref r0, jk, .int x2, .int x3, .int x4, .int x5] [] μ
      refine run_ok (pc' := 101) [(.iconst 1, 0, 0, 0), (.goto 4, 0, 0, 0)] _ _ _ _ (by decide +kernel) ?_
      show G Γ m_Pa_startRows (d + 1) (0, 0) Q 101 [.ref r0, jk, .int x2, .int x3, .int x4, .int x5] [.int (w 1)] μ
      exact g_retz (by decide +kernel) rfl (Or.inr rfl) h
  · replace h := h.2 hc
    show G Γ m_Pa_startRows (d + 1) (0, 0) Q 26 [.ref r0, jk, .int x2, .int x3, .int x4, .int x5] [] μ
    obtain ⟨nz1, h⟩ := h
    obtain ⟨nz2, h⟩ := h
    refine run_ok (pc' := 41) [(.iload_n 3, 0, 0, 0), (.bipush 10, 0, 0, 0), (.irem, 0, 0, 0), (.istore 6, 0, 0, 0), (.iload_n 3, 0, 0, 0), (.bipush 10, 0, 0, 0), (.idiv, 0, 0, 0), (.istore_n 3, 0, 0, 0), (.iload 6, 0, 0, 0), (.iload 4, 0, 0, 0)] _ _ _ _ (by decide +kernel) ?_
    show _ ∧ (_ ∧ (_))
    refine ⟨nz1, nz2, ?_⟩
    show G Γ m_Pa_startRows (d + 1) (0, 0) Q 41 [.ref r0, jk, .int x2, .int (x3 / (w 10)), .int x4, .int x5, .int (x3 - x3 / (w 10) * (w 10))] [.int x4, .int (x3 - x3 / (w 10) * (w 10))] μ
    refine g_icmp_gt (pc' := 55) (off := 14) (by decide) (by decide +kernel) (fun hc => ?_) (fun hc => ?_)
    · replace h := h.1 hc
      show G Γ m_Pa_startRows (d + 1) (0, 0) Q 55 [.ref r0, jk, .int x2, .int (x3 / (w 10)), .int x4, .int x5, .int (x3 - x3 / (w 10) * (w 10))] [] μ
      refine run_ok (pc' := 56) [(.iconst 0, 0, 0, 0)] _ _ _ _ (by decide +kernel) ?_
      show G Γ m_Pa_startRows (d + 1) (0, 0) Q 56 [.ref r0, jk, .int x2, .int (x3 / (w 10)), .int x4, .int x5, .int (x3 - x3 / (w 10) * (w 10))] [.int (w 0)] μ
      exact g_retz (by decide +kernel) rfl (Or.inl rfl) h
    · replace h := h.2 hc
      show G Γ m_Pa_startRows (d + 1) (0, 0) Q 44 [.ref r0, jk, .int x2, .int (x3 / (w 10)), .int x4, .int x5, .int (x3 - x3 / (w 10) * (w 10))] [] μ
      refine run_ok (pc' := 46) [(.iload 6, 0, 0, 0)] _ _ _ _ (by decide +kernel) ?_
      show G Γ m_Pa_startRows (d + 1) (0, 0) Q 46 [.ref r0, jk, .int x2, .int (x3 / (w 10)), .int x4, .int x5, .int (x3 - x3 / (w 10) * (w 10))] [.int (x3 - x3 / (w 10) * (w 10))] μ
      refine g_ifz_le (pc' := 57) (off := 11) (by decide) (by decide +kernel) (fun hc => ?_) (fun hc => ?_)
      · replace h := h.2 hc
        show G Γ m_Pa_startRows (d + 1) (0, 0) Q 57 [.ref r0, jk, .int x2, .int (x3 / (w 10)), .int x4, .int x5, .int (x3 - x3 / (w 10) * (w 10))] [] μ
        refine run_ok (pc' := 60) [(.iconst 0, 0, 0, 0), (.istore 7, 0, 0, 0)] _ _ _ _ (by decide +kernel) ?_
        show G Γ m_Pa_startRows (d + 1) (0, 0) Q 60 [.ref r0, jk, .int x2, .int (x3 / (w 10)), .int x4, .int x5, .int (x3 - x3 / (w 10) * (w 10)), .int (w 0)] [] μ
        exact h
      · replace h := h.1 hc
        show G Γ m_Pa_startRows (d + 1) (0, 0) Q 49 [.ref r0, jk, .int x2, .int (x3 / (w 10)), .int x4, .int x5, .int (x3 - x3 / (w 10) * (w 10))] [] μ
        refine run_ok (pc' := 52) [(.iload 5, 0, 0, 0), (.iload_n 2, 0, 0, 0)] _ _ _ _ (by decide +kernel) ?_
        show G Γ m_Pa_startRows (d + 1) (0, 0) Q 52 [.ref r0, jk, .int x2, .int (x3 / (w 10)), .int x4, .int x5, .int (x3 - x3 / (w 10) * (w 10))] [.int x2, .int x5] μ
        refine g_icmp_lt (pc' := 57) (off := 5) (by decide) (by decide +kernel) (fun hc => ?_) (fun hc => ?_)
        · replace h := h.1 hc
          show G Γ m_Pa_startRows (d + 1) (0, 0) Q 57 [.ref r0, jk, .int x2, .int (x3 / (w 10)), .int x4, .int x5, .int (x3 - x3 / (w 10) * (w 10))] [] μ
          refine run_ok (pc' := 60) [(.iconst 0, 0, 0, 0), (.istore 7, 0, 0, 0)] _ _ _ _ (by decide +kernel) ?_
          show G Γ m_Pa_startRows (d + 1) (0, 0) Q 60 [.ref r0, jk, .int x2, .int (x3 / (w 10)), .int x4, .int x5, .int (x3 - x3 / (w 10) * (w 10)), .int (w 0)] [] μ
          exact h
        · replace h := h.2 hc
          show G Γ m_Pa_startRows (d + 1) (0, 0) Q 55 [.ref r0, jk, .int x2, .int (x3 / (w 10)), .int x4, .int x5, .int (x3 - x3 / (w 10) * (w 10))] [] μ
          refine run_ok (pc' := 56) [(.iconst 0, 0, 0, 0)] _ _ _ _ (by decide +kernel) ?_
          show G Γ m_Pa_startRows (d + 1) (0, 0) Q 56 [.ref r0, jk, .int x2, .int (x3 / (w 10)), .int x4, .int x5, .int (x3 - x3 / (w 10) * (w 10))] [.int (w 0)] μ
          exact g_retz (by decide +kernel) rfl (Or.inl rfl) h
set_option maxRecDepth 100000 in
theorem B_Pa_startRows_60 {Γ : XG} {d : Nat} {Q : Option Value → XM → Prop} {r0 r0_3 : Nat} {x2 x3 x4 x5 x6 x7 : Int32} {μ : XM} (o_r0_5 : ob μ r0 5) (e_r0_3 : xR μ r0 3 = some r0_3) (h : ((x7 < x6 → inS μ 0 r0_3 (x4 + w (-1)) ∧ ∀ μ2, μ2 = sI μ r0_3 (x4 + w (-1)).toNatClampNeg x5 → G Γ m_Pa_startRows (d + 1) (0, 0) Q 60 [.ref r0, jk, .int x2, .int x3, .int (x4 + w (-1)), .int x5, .int x6, .int (x7 + w 1)] [] μ2) ∧ (¬ x7 < x6 → G Γ m_Pa_startRows (d + 1) (0, 0) Q 21 [.ref r0, jk, .int x2, .int x3, .int x4, .int (x5 + w (-1))] [] μ))) : G Γ m_Pa_startRows (d + 1) (0, 0) Q 60 [.ref r0, jk, .int x2, .int x3, .int x4, .int x5, .int x6, .int x7] [] μ := by
  refine run_ok (pc' := 64) [(.iload 7, 0, 0, 0), (.iload 6, 0, 0, 0)] _ _ _ _ (by decide +kernel) ?_
  show G Γ m_Pa_startRows (d + 1) (0, 0) Q 64 [.ref r0, jk, .int x2, .int x3, .int x4, .int x5, .int x6, .int x7] [.int x6, .int x7] μ
  refine g_icmp_ge (pc' := 85) (off := 21) (by decide) (by decide +kernel) (fun hc => ?_) (fun hc => ?_)
  · replace h := h.2 hc
    show G Γ m_Pa_startRows (d + 1) (0, 0) Q 85 [.ref r0, jk, .int x2, .int x3, .int x4, .int x5, .int x6, .int x7] [] μ
    refine run_ok (pc' := 21) [(.iinc 5 (-1), 0, 0, 0), (.goto (-67), 0, 0, 0)] _ _ _ _ (by decide +kernel) ?_
    show G Γ m_Pa_startRows (d + 1) (0, 0) Q 21 [.ref r0, jk, .int x2, .int x3, .int x4, .int (x5 + w (-1)), .int x6, .int x7] [] μ
    exact g_wk (ls' := [.ref r0, jk, .int x2, .int x3, .int x4, .int (x5 + w (-1))]) ⟨Or.inr rfl, Or.inl rfl, Or.inr rfl, Or.inr rfl, Or.inr rfl, Or.inr rfl, trivial⟩ h
  · replace h := h.1 hc
    show G Γ m_Pa_startRows (d + 1) (0, 0) Q 67 [.ref r0, jk, .int x2, .int x3, .int x4, .int x5, .int x6, .int x7] [] μ
    obtain ⟨is1, h⟩ := h
    refine run_ok (pc' := 79) [(.iinc 4 (-1), 0, 0, 0), (.aload_n 0, 0, 0, 0), (.getfield 22, 5, 3, 2), (.iload 4, 0, 0, 0), (.iload 5, 0, 0, 0), (.iastore, 0, 0, 0)] _ _ _ _ (by decide +kernel) ?_
    show _ ∧ (∃ _, _ ∧ (_ ∧ (_)))
    refine ⟨o_r0_5, r0_3, e_r0_3, is1, ?_⟩
    show G Γ m_Pa_startRows (d + 1) (0, 0) Q 79 [.ref r0, jk, .int x2, .int x3, .int (x4 + w (-1)), .int x5, .int x6, .int x7] [] (sI μ r0_3 (x4 + w (-1)).toNatClampNeg x5)
    obtain ⟨μ2, em2⟩ : ∃ m : XM, m = sI μ r0_3 (x4 + w (-1)).toNatClampNeg x5 := ⟨_, rfl⟩
    replace h := h μ2 em2
    have hm2 : xN μ ≤ xN μ2 := by rw [em2]; exact Nat.le_refl _
    rw [← em2]
    refine run_ok (pc' := 60) [(.iinc 7 1, 0, 0, 0), (.goto (-22), 0, 0, 0)] _ _ _ _ (by decide +kernel) ?_
    show G Γ m_Pa_startRows (d + 1) (0, 0) Q 60 [.ref r0, jk, .int x2, .int x3, .int (x4 + w (-1)), .int x5, .int x6, .int (x7 + w 1)] [] μ2
    exact h
/-! FrostBox$Past nextRow()Z -/
set_option maxRecDepth 100000 in
theorem lk_5_33 : LkV 5 33 m_Pa_swap 2 := ⟨lc_Pa_swap, lwG_in (List.mem_of_getElem? (i := 1065) rfl) rfl, lwG_in (List.mem_of_getElem? (i := 1067) rfl) rfl, lwG_in (List.mem_of_getElem? (i := 47) rfl) rfl⟩
set_option maxRecDepth 100000 in
theorem B_Pa_nextRow_0 {Γ : XG} {d : Nat} {Q : Option Value → XM → Prop} {r0 : Nat} {μ : XM}  (h : G Γ m_Pa_nextRow (d + 1) (0, 0) Q 2 [.ref r0, .int (w 4)] [] μ) : G Γ m_Pa_nextRow (d + 1) (0, 0) Q 0 [.ref r0] [] μ := by
  refine run_ok (pc' := 2) [(.iconst 4, 0, 0, 0), (.istore_n 1, 0, 0, 0)] _ _ _ _ (by decide +kernel) ?_
  show G Γ m_Pa_nextRow (d + 1) (0, 0) Q 2 [.ref r0, .int (w 4)] [] μ
  exact h
set_option maxRecDepth 100000 in
theorem B_Pa_nextRow_2 {Γ : XG} {d : Nat} {Q : Option Value → XM → Prop} {r0 r0_3 : Nat} {x1 : Int32} {μ : XM} (o_r0_5 : ob μ r0 5) (e_r0_3 : xR μ r0 3 = some r0_3) (h : ((x1 < w 0 → ((x1 < w 0 → Q (some (.int (w 0))) μ) ∧ (¬ x1 < w 0 → G Γ m_Pa_nextRow (d + 1) (0, 0) Q 37 [.ref r0, .int x1, .int (w 5)] [] μ))) ∧ (¬ x1 < w 0 → inb μ 0 r0_3 x1 ∧ inb μ 0 r0_3 (x1 + (w 1)) ∧ ((xI μ r0_3 x1.toNatClampNeg < xI μ r0_3 (x1 + (w 1)).toNatClampNeg → ((x1 < w 0 → Q (some (.int (w 0))) μ) ∧ (¬ x1 < w 0 → G Γ m_Pa_nextRow (d + 1) (0, 0) Q 37 [.ref r0, .int x1, .int (w 5)] [] μ))) ∧ (¬ xI μ r0_3 x1.toNatClampNeg < xI μ r0_3 (x1 + (w 1)).toNatClampNeg → G Γ m_Pa_nextRow (d + 1) (0, 0) Q 2 [.ref r0, .int (x1 + w (-1))] [] μ))))) : G Γ m_Pa_nextRow (d + 1) (0, 0) Q 2 [.ref r0, .int x1] [] μ := by
  refine run_ok (pc' := 3) [(.iload_n 1, 0, 0, 0)] _ _ _ _ (by decide +kernel) ?_
  show G Γ m_Pa_nextRow (d + 1) (0, 0) Q 3 [.ref r0, .int x1] [.int x1] μ
  refine g_ifz_lt (pc' := 29) (off := 26) (by decide) (by decide +kernel) (fun hc => ?_) (fun hc => ?_)
  · replace h := h.1 hc
    show G Γ m_Pa_nextRow (d + 1) (0, 0) Q 29 [.ref r0, .int x1] [] μ
    refine run_ok (pc' := 30) [(.iload_n 1, 0, 0, 0)] _ _ _ _ (by decide +kernel) ?_
    show G Γ m_Pa_nextRow (d + 1) (0, 0) Q 30 [.ref r0, .int x1] [.int x1] μ
    refine g_ifz_ge (pc' := 35) (off := 5) (by decide) (by decide +kernel) (fun hc => ?_) (fun hc => ?_)
    · replace h := h.2 hc
      show G Γ m_Pa_nextRow (d + 1) (0, 0) Q 35 [.ref r0, .int x1] [] μ
      refine run_ok (pc' := 37) [(.iconst 5, 0, 0, 0), (.istore_n 2, 0, 0, 0)] _ _ _ _ (by decide +kernel) ?_
      show G Γ m_Pa_nextRow (d + 1) (0, 0) Q 37 [.ref r0, .int x1, .int (w 5)] [] μ
      exact h
    · replace h := h.1 hc
      show G Γ m_Pa_nextRow (d + 1) (0, 0) Q 33 [.ref r0, .int x1] [] μ
      refine run_ok (pc' := 34) [(.iconst 0, 0, 0, 0)] _ _ _ _ (by decide +kernel) ?_
      show G Γ m_Pa_nextRow (d + 1) (0, 0) Q 34 [.ref r0, .int x1] [.int (w 0)] μ
      exact g_retz (by decide +kernel) rfl (Or.inl rfl) h
  · replace h := h.2 hc
    show G Γ m_Pa_nextRow (d + 1) (0, 0) Q 6 [.ref r0, .int x1] [] μ
    obtain ⟨ib1, h⟩ := h
    obtain ⟨ib2, h⟩ := h
    refine run_ok (pc' := 20) [(.aload_n 0, 0, 0, 0), (.getfield 22, 5, 3, 2), (.iload_n 1, 0, 0, 0), (.iaload, 0, 0, 0), (.aload_n 0, 0, 0, 0), (.getfield 22, 5, 3, 2), (.iload_n 1, 0, 0, 0), (.iconst 1, 0, 0, 0), (.iadd, 0, 0, 0), (.iaload, 0, 0, 0)] _ _ _ _ (by decide +kernel) ?_
    show _ ∧ (∃ _, _ ∧ (_ ∧ (_ ∧ (∃ _, _ ∧ (_ ∧ (_))))))
    refine ⟨o_r0_5, r0_3, e_r0_3, ib1, o_r0_5, r0_3, e_r0_3, ib2, ?_⟩
    show G Γ m_Pa_nextRow (d + 1) (0, 0) Q 20 [.ref r0, .int x1] [.int (xI μ r0_3 (x1 + (w 1)).toNatClampNeg), .int (xI μ r0_3 x1.toNatClampNeg)] μ
    refine g_icmp_lt (pc' := 29) (off := 9) (by decide) (by decide +kernel) (fun hc => ?_) (fun hc => ?_)
    · replace h := h.1 hc
      show G Γ m_Pa_nextRow (d + 1) (0, 0) Q 29 [.ref r0, .int x1] [] μ
      refine run_ok (pc' := 30) [(.iload_n 1, 0, 0, 0)] _ _ _ _ (by decide +kernel) ?_
      show G Γ m_Pa_nextRow (d + 1) (0, 0) Q 30 [.ref r0, .int x1] [.int x1] μ
      refine g_ifz_ge (pc' := 35) (off := 5) (by decide) (by decide +kernel) (fun hc => ?_) (fun hc => ?_)
      · replace h := h.2 hc
        show G Γ m_Pa_nextRow (d + 1) (0, 0) Q 35 [.ref r0, .int x1] [] μ
        refine run_ok (pc' := 37) [(.iconst 5, 0, 0, 0), (.istore_n 2, 0, 0, 0)] _ _ _ _ (by decide +kernel) ?_
        show G Γ m_Pa_nextRow (d + 1) (0, 0) Q 37 [.ref r0, .int x1, .int (w 5)] [] μ
        exact h
      · replace h := h.1 hc
        show G Γ m_Pa_nextRow (d + 1) (0, 0) Q 33 [.ref r0, .int x1] [] μ
        refine run_ok (pc' := 34) [(.iconst 0, 0, 0, 0)] _ _ _ _ (by decide +kernel) ?_
        show G Γ m_Pa_nextRow (d + 1) (0, 0) Q 34 [.ref r0, .int x1] [.int (w 0)] μ
        exact g_retz (by decide +kernel) rfl (Or.inl rfl) h
    · replace h := h.2 hc
      show G Γ m_Pa_nextRow (d + 1) (0, 0) Q 23 [.ref r0, .int x1] [] μ
      refine run_ok (pc' := 2) [(.iinc 1 (-1), 0, 0, 0), (.goto (-24), 0, 0, 0)] _ _ _ _ (by decide +kernel) ?_
      show G Γ m_Pa_nextRow (d + 1) (0, 0) Q 2 [.ref r0, .int (x1 + w (-1))] [] μ
      exact h
set_option maxRecDepth 100000 in
theorem B_Pa_nextRow_37 {Γ : XG} {d : Nat} {Q : Option Value → XM → Prop} {r0 r0_3 : Nat} {x1 x2 : Int32} {μ : XM} (o_r0_5 : ob μ r0 5) (e_r0_3 : xR μ r0 3 = some r0_3) (h : ((x1 < x2 → inb μ 0 r0_3 x2 ∧ inb μ 0 r0_3 x1 ∧ ((xI μ r0_3 x1.toNatClampNeg < xI μ r0_3 x2.toNatClampNeg → Call Γ m_Pa_swap d [.ref r0, .int x1, .int x2] μ (KV (fun μ4 => G Γ m_Pa_nextRow (d + 1) (0, 0) Q 76 [.ref r0, jk, jk, .int (x1 + (w 1)), .int (w 5)] [] μ4))) ∧ (¬ xI μ r0_3 x1.toNatClampNeg < xI μ r0_3 x2.toNatClampNeg → G Γ m_Pa_nextRow (d + 1) (0, 0) Q 37 [.ref r0, .int x1, .int (x2 + w (-1))] [] μ))) ∧ (¬ x1 < x2 → Call Γ m_Pa_swap d [.ref r0, .int x1, .int x2] μ (KV (fun μ1 => G Γ m_Pa_nextRow (d + 1) (0, 0) Q 76 [.ref r0, jk, jk, .int (x1 + (w 1)), .int (w 5)] [] μ1))))) : G Γ m_Pa_nextRow (d + 1) (0, 0) Q 37 [.ref r0, .int x1, .int x2] [] μ := by
  refine run_ok (pc' := 39) [(.iload_n 2, 0, 0, 0), (.iload_n 1, 0, 0, 0)] _ _ _ _ (by decide +kernel) ?_
  show G Γ m_Pa_nextRow (d + 1) (0, 0) Q 39 [.ref r0, .int x1, .int x2] [.int x1, .int x2] μ
  refine g_icmp_le (pc' := 63) (off := 24) (by decide) (by decide +kernel) (fun hc => ?_) (fun hc => ?_)
  · replace h := h.2 hc
    show G Γ m_Pa_nextRow (d + 1) (0, 0) Q 63 [.ref r0, .int x1, .int x2] [] μ
    refine run_ok (pc' := 66) [(.aload_n 0, 0, 0, 0), (.iload_n 1, 0, 0, 0), (.iload_n 2, 0, 0, 0)] _ _ _ _ (by decide +kernel) ?_
    show G Γ m_Pa_nextRow (d + 1) (0, 0) Q 66 [.ref r0, .int x1, .int x2] [.int x2, .int x1, .ref r0] μ
    refine g_invV (M' := m_Pa_swap) (b1 := 0) (b2 := 0) (As := [.int x1, .int x2]) (a := r0) (st := []) lk_5_33 (by decide +kernel) rfl (dk_Pa_swap d) (Nat.le_of_ble_eq_true rfl) (Or.inl ⟨5, o_r0_5, rfl⟩) h ?_
    rintro _ μ1 ⟨rfl, h⟩ hn1
    show G Γ m_Pa_nextRow (d + 1) (0, 0) Q 69 [.ref r0, .int x1, .int x2] [] μ1
    refine run_ok (pc' := 76) [(.iload_n 1, 0, 0, 0), (.iconst 1, 0, 0, 0), (.iadd, 0, 0, 0), (.istore_n 3, 0, 0, 0), (.iconst 5, 0, 0, 0), (.istore 4, 0, 0, 0)] _ _ _ _ (by decide +kernel) ?_
    show G Γ m_Pa_nextRow (d + 1) (0, 0) Q 76 [.ref r0, .int x1, .int x2, .int (x1 + (w 1)), .int (w 5)] [] μ1
    exact g_wk (ls' := [.ref r0, jk, jk, .int (x1 + (w 1)), .int (w 5)]) ⟨Or.inr rfl, Or.inl rfl, Or.inl rfl, Or.inr rfl, Or.inr rfl, trivial⟩ h
  · replace h := h.1 hc
    show G Γ m_Pa_nextRow (d + 1) (0, 0) Q 42 [.ref r0, .int x1, .int x2] [] μ
    obtain ⟨ib2, h⟩ := h
    obtain ⟨ib3, h⟩ := h
    refine run_ok (pc' := 54) [(.aload_n 0, 0, 0, 0), (.getfield 22, 5, 3, 2), (.iload_n 2, 0, 0, 0), (.iaload, 0, 0, 0), (.aload_n 0, 0, 0, 0), (.getfield 22, 5, 3, 2), (.iload_n 1, 0, 0, 0), (.iaload, 0, 0, 0)] _ _ _ _ (by decide +kernel) ?_
    show _ ∧ (∃ _, _ ∧ (_ ∧ (_ ∧ (∃ _, _ ∧ (_ ∧ (_))))))
    refine ⟨o_r0_5, r0_3, e_r0_3, ib2, o_r0_5, r0_3, e_r0_3, ib3, ?_⟩
    show G Γ m_Pa_nextRow (d + 1) (0, 0) Q 54 [.ref r0, .int x1, .int x2] [.int (xI μ r0_3 x1.toNatClampNeg), .int (xI μ r0_3 x2.toNatClampNeg)] μ
    refine g_icmp_gt (pc' := 63) (off := 9) (by decide) (by decide +kernel) (fun hc => ?_) (fun hc => ?_)
    · replace h := h.1 hc
      show G Γ m_Pa_nextRow (d + 1) (0, 0) Q 63 [.ref r0, .int x1, .int x2] [] μ
      refine run_ok (pc' := 66) [(.aload_n 0, 0, 0, 0), (.iload_n 1, 0, 0, 0), (.iload_n 2, 0, 0, 0)] _ _ _ _ (by decide +kernel) ?_
      show G Γ m_Pa_nextRow (d + 1) (0, 0) Q 66 [.ref r0, .int x1, .int x2] [.int x2, .int x1, .ref r0] μ
      refine g_invV (M' := m_Pa_swap) (b1 := 0) (b2 := 0) (As := [.int x1, .int x2]) (a := r0) (st := []) lk_5_33 (by decide +kernel) rfl (dk_Pa_swap d) (Nat.le_of_ble_eq_true rfl) (Or.inl ⟨5, o_r0_5, rfl⟩) h ?_
      rintro _ μ4 ⟨rfl, h⟩ hn4
      show G Γ m_Pa_nextRow (d + 1) (0, 0) Q 69 [.ref r0, .int x1, .int x2] [] μ4
      refine run_ok (pc' := 76) [(.iload_n 1, 0, 0, 0), (.iconst 1, 0, 0, 0), (.iadd, 0, 0, 0), (.istore_n 3, 0, 0, 0), (.iconst 5, 0, 0, 0), (.istore 4, 0, 0, 0)] _ _ _ _ (by decide +kernel) ?_
      show G Γ m_Pa_nextRow (d + 1) (0, 0) Q 76 [.ref r0, .int x1, .int x2, .int (x1 + (w 1)), .int (w 5)] [] μ4
      exact g_wk (ls' := [.ref r0, jk, jk, .int (x1 + (w 1)), .int (w 5)]) ⟨Or.inr rfl, Or.inl rfl, Or.inl rfl, Or.inr rfl, Or.inr rfl, trivial⟩ h
    · replace h := h.2 hc
      show G Γ m_Pa_nextRow (d + 1) (0, 0) Q 57 [.ref r0, .int x1, .int x2] [] μ
      refine run_ok (pc' := 37) [(.iinc 2 (-1), 0, 0, 0), (.goto (-23), 0, 0, 0)] _ _ _ _ (by decide +kernel) ?_
      show G Γ m_Pa_nextRow (d + 1) (0, 0) Q 37 [.ref r0, .int x1, .int (x2 + w (-1))] [] μ
      exact h
set_option maxRecDepth 100000 in
theorem B_Pa_nextRow_76 {Γ : XG} {d : Nat} {Q : Option Value → XM → Prop} {r0 : Nat} {x3 x4 : Int32} {μ : XM} (o_r0_5 : ob μ r0 5) (h : ((x3 < x4 → Call Γ m_Pa_swap d [.ref r0, .int x3, .int x4] μ (KV (fun μ1 => G Γ m_Pa_nextRow (d + 1) (0, 0) Q 76 [.ref r0, jk, jk, .int (x3 + w 1), .int (x4 + w (-1))] [] μ1))) ∧ (¬ x3 < x4 → Q (some (.int (w 1))) μ))) : G Γ m_Pa_nextRow (d + 1) (0, 0) Q 76 [.ref r0, jk, jk, .int x3, .int x4] [] μ := by
  refine run_ok (pc' := 79) [(.iload_n 3, 0, 0, 0), (.iload 4, 0, 0, 0)] _ _ _ _ (by decide +kernel) ?_
  show G Γ m_Pa_nextRow (d + 1) (0, 0) Q 79 [.ref r0, jk, jk, .int x3, .int x4] [.int x4, .int x3] μ
  refine g_icmp_ge (pc' := 98) (off := 19) (by decide) (by decide +kernel) (fun hc => ?_) (fun hc => ?_)
  · replace h := h.2 hc
    show G Γ m_Pa_nextRow (d + 1) (0, 0) Q 98 [.ref r0, jk, jk, .int x3, .int x4] [] μ
    refine run_ok (pc' := 99) [(.iconst 1, 0, 0, 0)] _ _ _ _ (by decide +kernel) ?_
    show G Γ m_Pa_nextRow (d + 1) (0, 0) Q 99 [.ref r0, jk, jk, .int x3, .int x4] [.int (w 1)] μ
    exact g_retz (by decide +kernel) rfl (Or.inr rfl) h
  · replace h := h.1 hc
    show G Γ m_Pa_nextRow (d + 1) (0, 0) Q 82 [.ref r0, jk, jk, .int x3, .int x4] [] μ
    refine run_ok (pc' := 86) [(.aload_n 0, 0, 0, 0), (.iload_n 3, 0, 0, 0), (.iload 4, 0, 0, 0)] _ _ _ _ (by decide +kernel) ?_
    show G Γ m_Pa_nextRow (d + 1) (0, 0) Q 86 [.ref r0, jk, jk, .int x3, .int x4] [.int x4, .int x3, .ref r0] μ
    refine g_invV (M' := m_Pa_swap) (b1 := 0) (b2 := 0) (As := [.int x3, .int x4]) (a := r0) (st := []) lk_5_33 (by decide +kernel) rfl (dk_Pa_swap d) (Nat.le_of_ble_eq_true rfl) (Or.inl ⟨5, o_r0_5, rfl⟩) h ?_
    rintro _ μ1 ⟨rfl, h⟩ hn1
    show G Γ m_Pa_nextRow (d + 1) (0, 0) Q 89 [.ref r0, jk, jk, .int x3, .int x4] [] μ1
    refine run_ok (pc' := 76) [(.iinc 3 1, 0, 0, 0), (.iinc 4 (-1), 0, 0, 0), (.goto (-19), 0, 0, 0)] _ _ _ _ (by decide +kernel) ?_
    show G Γ m_Pa_nextRow (d + 1) (0, 0) Q 76 [.ref r0, jk, jk, .int (x3 + w 1), .int (x4 + w (-1))] [] μ1
    exact h
/-! FrostBox$Past swap(II)V -/
set_option maxRecDepth 100000 in
theorem B_Pa_swap_0 {Γ : XG} {d : Nat} {Q : Option Value → XM → Prop} {r0 r0_3 : Nat} {x1 x2 : Int32} {μ : XM} (o_r0_5 : ob μ r0 5) (e_r0_3 : xR μ r0 3 = some r0_3) (h : inb μ 0 r0_3 x1 ∧ inb μ 0 r0_3 x2 ∧ inS μ 0 r0_3 x1 ∧ ∀ μ4, μ4 = sI μ r0_3 x1.toNatClampNeg (xI μ r0_3 x2.toNatClampNeg) → inS μ4 0 r0_3 x2 ∧ ∀ μ6, μ6 = sI μ4 r0_3 x2.toNatClampNeg (xI μ r0_3 x1.toNatClampNeg) → Q none μ6) : G Γ m_Pa_swap (d + 1) (0, 0) Q 0 [.ref r0, .int x1, .int x2] [] μ := by
  obtain ⟨ib1, h⟩ := h
  obtain ⟨ib2, h⟩ := h
  obtain ⟨is3, h⟩ := h
  refine run_ok (pc' := 19) [(.aload_n 0, 0, 0, 0), (.getfield 22, 5, 3, 2), (.iload_n 1, 0, 0, 0), (.iaload, 0, 0, 0), (.istore_n 3, 0, 0, 0), (.aload_n 0, 0, 0, 0), (.getfield 22, 5, 3, 2), (.iload_n 1, 0, 0, 0), (.aload_n 0, 0, 0, 0), (.getfield 22, 5, 3, 2), (.iload_n 2, 0, 0, 0), (.iaload, 0, 0, 0), (.iastore, 0, 0, 0)] _ _ _ _ (by decide +kernel) ?_
  show _ ∧ (∃ _, _ ∧ (_ ∧ (_ ∧ (∃ _, _ ∧ (_ ∧ (∃ _, _ ∧ (_ ∧ (_ ∧ (_)))))))))
  refine ⟨o_r0_5, r0_3, e_r0_3, ib1, o_r0_5, r0_3, e_r0_3, o_r0_5, r0_3, e_r0_3, ib2, is3, ?_⟩
  show G Γ m_Pa_swap (d + 1) (0, 0) Q 19 [.ref r0, .int x1, .int x2, .int (xI μ r0_3 x1.toNatClampNeg)] [] (sI μ r0_3 x1.toNatClampNeg (xI μ r0_3 x2.toNatClampNeg))
  obtain ⟨μ4, em4⟩ : ∃ m : XM, m = sI μ r0_3 x1.toNatClampNeg (xI μ r0_3 x2.toNatClampNeg) := ⟨_, rfl⟩
  replace h := h μ4 em4
  have hm4 : xN μ ≤ xN μ4 := by rw [em4]; exact Nat.le_refl _
  rw [← em4]
  obtain ⟨is5, h⟩ := h
  refine run_ok (pc' := 26) [(.aload_n 0, 0, 0, 0), (.getfield 22, 5, 3, 2), (.iload_n 2, 0, 0, 0), (.iload_n 3, 0, 0, 0), (.iastore, 0, 0, 0)] _ _ _ _ (by decide +kernel) ?_
  show _ ∧ (∃ _, _ ∧ (_ ∧ (_)))
  refine ⟨((o_r0_5).mono hm4), r0_3, (by rw [em4]; exact e_r0_3), is5, ?_⟩
  show G Γ m_Pa_swap (d + 1) (0, 0) Q 26 [.ref r0, .int x1, .int x2, .int (xI μ r0_3 x1.toNatClampNeg)] [] (sI μ4 r0_3 x2.toNatClampNeg (xI μ r0_3 x1.toNatClampNeg))
  obtain ⟨μ6, em6⟩ : ∃ m : XM, m = sI μ4 r0_3 x2.toNatClampNeg (xI μ r0_3 x1.toNatClampNeg) := ⟨_, rfl⟩
  replace h := h μ6 em6
  have hm6 : xN μ4 ≤ xN μ6 := by rw [em6]; exact Nat.le_refl _
  rw [← em6]
  exact g_retv (by decide +kernel) rfl h
/-! FrostBox$Past fitsAll()Z -/
set_option maxRecDepth 100000 in
theorem B_Pa_fitsAll_0 {Γ : XG} {d : Nat} {Q : Option Value → XM → Prop} {r0 : Nat} {μ : XM}  (h : G Γ m_Pa_fitsAll (d + 1) (0, 0) Q 2 [.ref r0, .int (w 0)] [] μ) : G Γ m_Pa_fitsAll (d + 1) (0, 0) Q 0 [.ref r0] [] μ := by
  refine run_ok (pc' := 2) [(.iconst 0, 0, 0, 0), (.istore_n 1, 0, 0, 0)] _ _ _ _ (by decide +kernel) ?_
  show G Γ m_Pa_fitsAll (d + 1) (0, 0) Q 2 [.ref r0, .int (w 0)] [] μ
  exact h
set_option maxRecDepth 100000 in
theorem B_Pa_fitsAll_2 {Γ : XG} {d : Nat} {Q : Option Value → XM → Prop} {r0 r0_3 r0_0 r0_1 r0_2 : Nat} {x1 : Int32} {μ : XM} (o_r0_5 : ob μ r0 5) (e_r0_3 : xR μ r0 3 = some r0_3) (e_r0_0 : xR μ r0 0 = some r0_0) (e_r0_1 : xR μ r0 1 = some r0_1) (e_r0_2 : xR μ r0 2 = some r0_2) (h : ((x1 < xI μ r0 5 → inb μ 0 r0_0 x1 ∧ inb μ 0 r0_3 (xI μ r0_0 x1.toNatClampNeg) ∧ inb μ 0 r0_1 x1 ∧ ((xI μ r0_3 (xI μ r0_0 x1.toNatClampNeg).toNatClampNeg = xI μ r0_1 x1.toNatClampNeg → inb μ 2 r0_2 x1 ∧ ((w 1 = xI μ r0_2 x1.toNatClampNeg → G Γ m_Pa_fitsAll (d + 1) (0, 0) Q 2 [.ref r0, .int (x1 + w 1)] [] μ) ∧ (¬ w 1 = xI μ r0_2 x1.toNatClampNeg → Q (some (.int (w 0))) μ))) ∧ (¬ xI μ r0_3 (xI μ r0_0 x1.toNatClampNeg).toNatClampNeg = xI μ r0_1 x1.toNatClampNeg → inb μ 2 r0_2 x1 ∧ ((w 0 = xI μ r0_2 x1.toNatClampNeg → G Γ m_Pa_fitsAll (d + 1) (0, 0) Q 2 [.ref r0, .int (x1 + w 1)] [] μ) ∧ (¬ w 0 = xI μ r0_2 x1.toNatClampNeg → Q (some (.int (w 0))) μ))))) ∧ (¬ x1 < xI μ r0 5 → Q (some (.int (w 1))) μ))) : G Γ m_Pa_fitsAll (d + 1) (0, 0) Q 2 [.ref r0, .int x1] [] μ := by
  refine run_ok (pc' := 7) [(.iload_n 1, 0, 0, 0), (.aload_n 0, 0, 0, 0), (.getfield 28, 5, 5, 0)] _ _ _ _ (by decide +kernel) ?_
  show _ ∧ (_)
  refine ⟨o_r0_5, ?_⟩
  show G Γ m_Pa_fitsAll (d + 1) (0, 0) Q 7 [.ref r0, .int x1] [.int (xI μ r0 5), .int x1] μ
  refine g_icmp_ge (pc' := 52) (off := 45) (by decide) (by decide +kernel) (fun hc => ?_) (fun hc => ?_)
  · replace h := h.2 hc
    show G Γ m_Pa_fitsAll (d + 1) (0, 0) Q 52 [.ref r0, .int x1] [] μ
    refine run_ok (pc' := 53) [(.iconst 1, 0, 0, 0)] _ _ _ _ (by decide +kernel) ?_
    show G Γ m_Pa_fitsAll (d + 1) (0, 0) Q 53 [.ref r0, .int x1] [.int (w 1)] μ
    exact g_retz (by decide +kernel) rfl (Or.inr rfl) h
  · replace h := h.1 hc
    show G Γ m_Pa_fitsAll (d + 1) (0, 0) Q 10 [.ref r0, .int x1] [] μ
    obtain ⟨ib1, h⟩ := h
    obtain ⟨ib2, h⟩ := h
    obtain ⟨ib3, h⟩ := h
    refine run_ok (pc' := 27) [(.aload_n 0, 0, 0, 0), (.getfield 22, 5, 3, 2), (.aload_n 0, 0, 0, 0), (.getfield 9, 5, 0, 2), (.iload_n 1, 0, 0, 0), (.iaload, 0, 0, 0), (.iaload, 0, 0, 0), (.aload_n 0, 0, 0, 0), (.getfield 15, 5, 1, 2), (.iload_n 1, 0, 0, 0), (.iaload, 0, 0, 0)] _ _ _ _ (by decide +kernel) ?_
    show _ ∧ (∃ _, _ ∧ (_ ∧ (∃ _, _ ∧ (_ ∧ (_ ∧ (_ ∧ (∃ _, _ ∧ (_ ∧ (_)))))))))
    refine ⟨o_r0_5, r0_3, e_r0_3, o_r0_5, r0_0, e_r0_0, ib1, ib2, o_r0_5, r0_1, e_r0_1, ib3, ?_⟩
    show G Γ m_Pa_fitsAll (d + 1) (0, 0) Q 27 [.ref r0, .int x1] [.int (xI μ r0_1 x1.toNatClampNeg), .int (xI μ r0_3 (xI μ r0_0 x1.toNatClampNeg).toNatClampNeg)] μ
    refine g_icmp_ne (pc' := 34) (off := 7) (by decide) (by decide +kernel) (fun hc => ?_) (fun hc => ?_)
    · replace h := h.2 hc
      show G Γ m_Pa_fitsAll (d + 1) (0, 0) Q 34 [.ref r0, .int x1] [] μ
      obtain ⟨ib4, h⟩ := h
      refine run_ok (pc' := 41) [(.iconst 0, 0, 0, 0), (.aload_n 0, 0, 0, 0), (.getfield 18, 5, 2, 2), (.iload_n 1, 0, 0, 0), (.baload, 2, 0, 0)] _ _ _ _ (by decide +kernel) ?_
      show _ ∧ (∃ _, _ ∧ (_ ∧ (_ ∧ (_))))
      refine ⟨o_r0_5, r0_2, e_r0_2, ib4, Or.inr rfl, ?_⟩
      show G Γ m_Pa_fitsAll (d + 1) (0, 0) Q 41 [.ref r0, .int x1] [.int (xI μ r0_2 x1.toNatClampNeg), .int (w 0)] μ
      refine g_icmp_eq (pc' := 46) (off := 5) (by decide) (by decide +kernel) (fun hc => ?_) (fun hc => ?_)
      · replace h := h.1 hc
        show G Γ m_Pa_fitsAll (d + 1) (0, 0) Q 46 [.ref r0, .int x1] [] μ
        refine run_ok (pc' := 2) [(.iinc 1 1, 0, 0, 0), (.goto (-47), 0, 0, 0)] _ _ _ _ (by decide +kernel) ?_
        show G Γ m_Pa_fitsAll (d + 1) (0, 0) Q 2 [.ref r0, .int (x1 + w 1)] [] μ
        exact h
      · replace h := h.2 hc
        show G Γ m_Pa_fitsAll (d + 1) (0, 0) Q 44 [.ref r0, .int x1] [] μ
        refine run_ok (pc' := 45) [(.iconst 0, 0, 0, 0)] _ _ _ _ (by decide +kernel) ?_
        show G Γ m_Pa_fitsAll (d + 1) (0, 0) Q 45 [.ref r0, .int x1] [.int (w 0)] μ
        exact g_retz (by decide +kernel) rfl (Or.inl rfl) h
    · replace h := h.1 hc
      show G Γ m_Pa_fitsAll (d + 1) (0, 0) Q 30 [.ref r0, .int x1] [] μ
      obtain ⟨ib5, h⟩ := h
      refine run_ok (pc' := 41) [(.iconst 1, 0, 0, 0), (.goto 4, 0, 0, 0), (.aload_n 0, 0, 0, 0), (.getfield 18, 5, 2, 2), (.iload_n 1, 0, 0, 0), (.baload, 2, 0, 0)] _ _ _ _ (by decide +kernel) ?_
      show _ ∧ (∃ _, _ ∧ (_ ∧ (_ ∧ (_))))
      refine ⟨o_r0_5, r0_2, e_r0_2, ib5, Or.inr rfl, ?_⟩
      show G Γ m_Pa_fitsAll (d + 1) (0, 0) Q 41 [.ref r0, .int x1] [.int (xI μ r0_2 x1.toNatClampNeg), .int (w 1)] μ
      refine g_icmp_eq (pc' := 46) (off := 5) (by decide) (by decide +kernel) (fun hc => ?_) (fun hc => ?_)
      · replace h := h.1 hc
        show G Γ m_Pa_fitsAll (d + 1) (0, 0) Q 46 [.ref r0, .int x1] [] μ
        refine run_ok (pc' := 2) [(.iinc 1 1, 0, 0, 0), (.goto (-47), 0, 0, 0)] _ _ _ _ (by decide +kernel) ?_
        show G Γ m_Pa_fitsAll (d + 1) (0, 0) Q 2 [.ref r0, .int (x1 + w 1)] [] μ
        exact h
      · replace h := h.2 hc
        show G Γ m_Pa_fitsAll (d + 1) (0, 0) Q 44 [.ref r0, .int x1] [] μ
        refine run_ok (pc' := 45) [(.iconst 0, 0, 0, 0)] _ _ _ _ (by decide +kernel) ?_
        show G Γ m_Pa_fitsAll (d + 1) (0, 0) Q 45 [.ref r0, .int x1] [.int (w 0)] μ
        exact g_retz (by decide +kernel) rfl (Or.inl rfl) h
/-! FrostBox$Past rowAsDigits()I -/
set_option maxRecDepth 100000 in
theorem B_Pa_rowAsDigits_0 {Γ : XG} {d : Nat} {Q : Option Value → XM → Prop} {r0 : Nat} {μ : XM}  (h : G Γ m_Pa_rowAsDigits (d + 1) (0, 0) Q 4 [.ref r0, .int (w 0), .int (w 0)] [] μ) : G Γ m_Pa_rowAsDigits (d + 1) (0, 0) Q 0 [.ref r0] [] μ := by
  refine run_ok (pc' := 4) [(.iconst 0, 0, 0, 0), (.istore_n 1, 0, 0, 0), (.iconst 0, 0, 0, 0), (.istore_n 2, 0, 0, 0)] _ _ _ _ (by decide +kernel) ?_
  show G Γ m_Pa_rowAsDigits (d + 1) (0, 0) Q 4 [.ref r0, .int (w 0), .int (w 0)] [] μ
  exact h
set_option maxRecDepth 100000 in
theorem B_Pa_rowAsDigits_4 {Γ : XG} {d : Nat} {Q : Option Value → XM → Prop} {r0 r0_3 : Nat} {x1 x2 : Int32} {μ : XM} (o_r0_5 : ob μ r0 5) (e_r0_3 : xR μ r0 3 = some r0_3) (h : ((x2 < w 6 → inb μ 0 r0_3 x2 ∧ G Γ m_Pa_rowAsDigits (d + 1) (0, 0) Q 4 [.ref r0, .int ((x1 * (w 10)) + (xI μ r0_3 x2.toNatClampNeg)), .int (x2 + w 1)] [] μ) ∧ (¬ x2 < w 6 → Q (some (.int x1)) μ))) : G Γ m_Pa_rowAsDigits (d + 1) (0, 0) Q 4 [.ref r0, .int x1, .int x2] [] μ := by
  refine run_ok (pc' := 7) [(.iload_n 2, 0, 0, 0), (.bipush 6, 0, 0, 0)] _ _ _ _ (by decide +kernel) ?_
  show G Γ m_Pa_rowAsDigits (d + 1) (0, 0) Q 7 [.ref r0, .int x1, .int x2] [.int (w 6), .int x2] μ
  refine g_icmp_ge (pc' := 28) (off := 21) (by decide) (by decide +kernel) (fun hc => ?_) (fun hc => ?_)
  · replace h := h.2 hc
    show G Γ m_Pa_rowAsDigits (d + 1) (0, 0) Q 28 [.ref r0, .int x1, .int x2] [] μ
    refine run_ok (pc' := 29) [(.iload_n 1, 0, 0, 0)] _ _ _ _ (by decide +kernel) ?_
    show G Γ m_Pa_rowAsDigits (d + 1) (0, 0) Q 29 [.ref r0, .int x1, .int x2] [.int x1] μ
    exact g_reti (by decide +kernel) rfl h
  · replace h := h.1 hc
    show G Γ m_Pa_rowAsDigits (d + 1) (0, 0) Q 10 [.ref r0, .int x1, .int x2] [] μ
    obtain ⟨ib1, h⟩ := h
    refine run_ok (pc' := 4) [(.iload_n 1, 0, 0, 0), (.bipush 10, 0, 0, 0), (.imul, 0, 0, 0), (.aload_n 0, 0, 0, 0), (.getfield 22, 5, 3, 2), (.iload_n 2, 0, 0, 0), (.iaload, 0, 0, 0), (.iadd, 0, 0, 0), (.istore_n 1, 0, 0, 0), (.iinc 2 1, 0, 0, 0), (.goto (-21), 0, 0, 0)] _ _ _ _ (by decide +kernel) ?_
    show _ ∧ (∃ _, _ ∧ (_ ∧ (_)))
    refine ⟨o_r0_5, r0_3, e_r0_3, ib1, ?_⟩
    show G Γ m_Pa_rowAsDigits (d + 1) (0, 0) Q 4 [.ref r0, .int ((x1 * (w 10)) + (xI μ r0_3 x2.toNatClampNeg)), .int (x2 + w 1)] [] μ
    exact h
/-! FrostBox$Past keepRow()I -/
set_option maxRecDepth 100000 in
theorem ac_5_37 : Cond.methodLink (cnm 5) 37 arraycopyName ∈ lwG ∧ Cond.native arraycopyName ∈ lwG ∧ Cond.static arraycopyName ∈ lwG ∧ Cond.initialized "java/lang/System" ∈ lwG := ⟨lwG_in (List.mem_of_getElem? (i := 1077) rfl) rfl, lwG_in (List.mem_of_getElem? (i := 481) rfl) rfl, lwG_in (List.mem_of_getElem? (i := 480) rfl) rfl, lwG_in (List.mem_of_getElem? (i := 125) rfl) rfl⟩
set_option maxRecDepth 100000 in
theorem B_Pa_keepRow_0 {Γ : XG} {d : Nat} {Q : Option Value → XM → Prop} {r0 r0_3 r0_4 : Nat} {μ : XM} (o_r0_5 : ob μ r0 5) (e_r0_3 : xR μ r0 3 = some r0_3) (e_r0_4 : xR μ r0 4 = some r0_4) (h : cpo μ r0_3 r0_4 6 ∧ ∀ μ2, μ2 = sC μ r0_3 r0_4 6 → Q (some (.int (w 63))) μ2) : G Γ m_Pa_keepRow (d + 2) (0, 0) Q 0 [.ref r0] [] μ := by
  refine run_ok (pc' := 12) [(.aload_n 0, 0, 0, 0), (.getfield 22, 5, 3, 2), (.iconst 0, 0, 0, 0), (.aload_n 0, 0, 0, 0), (.getfield 25, 5, 4, 2), (.iconst 0, 0, 0, 0), (.bipush 6, 0, 0, 0)] _ _ _ _ (by decide +kernel) ?_
  show _ ∧ (∃ _, _ ∧ (_ ∧ (∃ _, _ ∧ (_))))
  refine ⟨o_r0_5, r0_3, e_r0_3, o_r0_5, r0_4, e_r0_4, ?_⟩
  show G Γ m_Pa_keepRow (d + 2) (0, 0) Q 12 [.ref r0] [.int (w 6), .int (w 0), .ref r0_4, .int (w 0), .ref r0_3] μ
  obtain ⟨cp1, h⟩ := h
  refine g_cpy (i := 37) (n := 6) ac_5_37.1 ac_5_37.2 (by decide) (Nat.le_of_ble_eq_true rfl) (by decide +kernel) cp1 ?_
  show G Γ m_Pa_keepRow (d + 2) (0, 0) Q 15 [.ref r0] [] (sC μ r0_3 r0_4 6)
  obtain ⟨μ2, em2⟩ : ∃ m : XM, m = sC μ r0_3 r0_4 6 := ⟨_, rfl⟩
  replace h := h μ2 em2
  have hm2 : xN μ ≤ xN μ2 := by rw [em2]; exact Nat.le_refl _
  rw [← em2]
  refine run_ok (pc' := 17) [(.bipush 63, 0, 0, 0)] _ _ _ _ (by decide +kernel) ?_
  show G Γ m_Pa_keepRow (d + 2) (0, 0) Q 17 [.ref r0] [.int (w 63)] μ2
  exact g_reti (by decide +kernel) rfl h
/-! FrostBox$Past likeKept()I -/
set_option maxRecDepth 100000 in
theorem B_Pa_likeKept_0 {Γ : XG} {d : Nat} {Q : Option Value → XM → Prop} {r0 : Nat} {μ : XM}  (h : G Γ m_Pa_likeKept (d + 1) (0, 0) Q 4 [.ref r0, .int (w 0), .int (w 0)] [] μ) : G Γ m_Pa_likeKept (d + 1) (0, 0) Q 0 [.ref r0] [] μ := by
  refine run_ok (pc' := 4) [(.iconst 0, 0, 0, 0), (.istore_n 1, 0, 0, 0), (.iconst 0, 0, 0, 0), (.istore_n 2, 0, 0, 0)] _ _ _ _ (by decide +kernel) ?_
  show G Γ m_Pa_likeKept (d + 1) (0, 0) Q 4 [.ref r0, .int (w 0), .int (w 0)] [] μ
  exact h
set_option maxRecDepth 100000 in
theorem B_Pa_likeKept_4 {Γ : XG} {d : Nat} {Q : Option Value → XM → Prop} {r0 r0_3 r0_4 : Nat} {x1 x2 : Int32} {μ : XM} (o_r0_5 : ob μ r0 5) (e_r0_3 : xR μ r0 3 = some r0_3) (e_r0_4 : xR μ r0 4 = some r0_4) (h : ((x2 < w 6 → inb μ 0 r0_3 x2 ∧ inb μ 0 r0_4 x2 ∧ ((xI μ r0_3 x2.toNatClampNeg = xI μ r0_4 x2.toNatClampNeg → G Γ m_Pa_likeKept (d + 1) (0, 0) Q 4 [.ref r0, .int (x1 ||| ((w 1) <<< (x2 &&& 31))), .int (x2 + w 1)] [] μ) ∧ (¬ xI μ r0_3 x2.toNatClampNeg = xI μ r0_4 x2.toNatClampNeg → G Γ m_Pa_likeKept (d + 1) (0, 0) Q 4 [.ref r0, .int (x1 ||| (w 0)), .int (x2 + w 1)] [] μ))) ∧ (¬ x2 < w 6 → Q (some (.int x1)) μ))) : G Γ m_Pa_likeKept (d + 1) (0, 0) Q 4 [.ref r0, .int x1, .int x2] [] μ := by
  refine run_ok (pc' := 7) [(.iload_n 2, 0, 0, 0), (.bipush 6, 0, 0, 0)] _ _ _ _ (by decide +kernel) ?_
  show G Γ m_Pa_likeKept (d + 1) (0, 0) Q 7 [.ref r0, .int x1, .int x2] [.int (w 6), .int x2] μ
  refine g_icmp_ge (pc' := 41) (off := 34) (by decide) (by decide +kernel) (fun hc => ?_) (fun hc => ?_)
  · replace h := h.2 hc
    show G Γ m_Pa_likeKept (d + 1) (0, 0) Q 41 [.ref r0, .int x1, .int x2] [] μ
    refine run_ok (pc' := 42) [(.iload_n 1, 0, 0, 0)] _ _ _ _ (by decide +kernel) ?_
    show G Γ m_Pa_likeKept (d + 1) (0, 0) Q 42 [.ref r0, .int x1, .int x2] [.int x1] μ
    exact g_reti (by decide +kernel) rfl h
  · replace h := h.1 hc
    show G Γ m_Pa_likeKept (d + 1) (0, 0) Q 10 [.ref r0, .int x1, .int x2] [] μ
    obtain ⟨ib1, h⟩ := h
    obtain ⟨ib2, h⟩ := h
    refine run_ok (pc' := 23) [(.iload_n 1, 0, 0, 0), (.aload_n 0, 0, 0, 0), (.getfield 22, 5, 3, 2), (.iload_n 2, 0, 0, 0), (.iaload, 0, 0, 0), (.aload_n 0, 0, 0, 0), (.getfield 25, 5, 4, 2), (.iload_n 2, 0, 0, 0), (.iaload, 0, 0, 0)] _ _ _ _ (by decide +kernel) ?_
    show _ ∧ (∃ _, _ ∧ (_ ∧ (_ ∧ (∃ _, _ ∧ (_ ∧ (_))))))
    refine ⟨o_r0_5, r0_3, e_r0_3, ib1, o_r0_5, r0_4, e_r0_4, ib2, ?_⟩
    show G Γ m_Pa_likeKept (d + 1) (0, 0) Q 23 [.ref r0, .int x1, .int x2] [.int (xI μ r0_4 x2.toNatClampNeg), .int (xI μ r0_3 x2.toNatClampNeg), .int x1] μ
    refine g_icmp_ne (pc' := 32) (off := 9) (by decide) (by decide +kernel) (fun hc => ?_) (fun hc => ?_)
    · replace h := h.2 hc
      show G Γ m_Pa_likeKept (d + 1) (0, 0) Q 32 [.ref r0, .int x1, .int x2] [.int x1] μ
      refine run_ok (pc' := 4) [(.iconst 0, 0, 0, 0), (.ior, 0, 0, 0), (.istore_n 1, 0, 0, 0), (.iinc 2 1, 0, 0, 0), (.goto (-34), 0, 0, 0)] _ _ _ _ (by decide +kernel) ?_
      show G Γ m_Pa_likeKept (d + 1) (0, 0) Q 4 [.ref r0, .int (x1 ||| (w 0)), .int (x2 + w 1)] [] μ
      exact h
    · replace h := h.1 hc
      show G Γ m_Pa_likeKept (d + 1) (0, 0) Q 26 [.ref r0, .int x1, .int x2] [.int x1] μ
      refine run_ok (pc' := 4) [(.iconst 1, 0, 0, 0), (.iload_n 2, 0, 0, 0), (.ishl, 0, 0, 0), (.goto 4, 0, 0, 0), (.ior, 0, 0, 0), (.istore_n 1, 0, 0, 0), (.iinc 2 1, 0, 0, 0), (.goto (-34), 0, 0, 0)] _ _ _ _ (by decide +kernel) ?_
      show G Γ m_Pa_likeKept (d + 1) (0, 0) Q 4 [.ref r0, .int (x1 ||| ((w 1) <<< (x2 &&& 31))), .int (x2 + w 1)] [] μ
      exact h
