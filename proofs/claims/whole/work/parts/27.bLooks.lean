/-! FrostBox$Looks add(II)V -/
set_option maxRecDepth 100000 in
theorem B_Lo_add_0 {Γ : XG} {d : Nat} {Q : Option Value → XM → Prop} {r0 r0_0 r0_1 : Nat} {x1 x2 : Int32} {μ : XM} (o_r0_3 : ob μ r0 3) (e_r0_0 : xR μ r0 0 = some r0_0) (e_r0_1 : xR μ r0 1 = some r0_1) (h : ((xI μ r0 2 < w 12 → inS μ 0 r0_0 (xI μ r0 2) ∧ ∀ μ2, μ2 = sI μ r0_0 (xI μ r0 2).toNatClampNeg x1 → inS μ2 0 r0_1 (xI μ2 r0 2) ∧ ∀ μ4, μ4 = sI μ2 r0_1 (xI μ2 r0 2).toNatClampNeg x2 → ∀ μ5, μ5 = sI μ4 r0 2 ((xI μ4 r0 2) + (w 1)) → Q none μ5) ∧ (¬ xI μ r0 2 < w 12 → Q none μ))) : G Γ m_Lo_add (d + 1) (0, 0) Q 0 [.ref r0, .int x1, .int x2] [] μ := by
  refine run_ok (pc' := 6) [(.aload_n 0, 0, 0, 0), (.getfield 18, 3, 2, 0), (.bipush 12, 0, 0, 0)] _ _ _ _ (by decide +kernel) ?_
  show _ ∧ (_)
  refine ⟨o_r0_3, ?_⟩
  show G Γ m_Lo_add (d + 1) (0, 0) Q 6 [.ref r0, .int x1, .int x2] [.int (w 12), .int (xI μ r0 2)] μ
  refine g_icmp_ge (pc' := 39) (off := 33) (by decide) (by decide +kernel) (fun hc => ?_) (fun hc => ?_)
  · replace h := h.2 hc
    show G Γ m_Lo_add (d + 1) (0, 0) Q 39 [.ref r0, .int x1, .int x2] [] μ
    exact g_retv (by decide +kernel) rfl h
  · replace h := h.1 hc
    show G Γ m_Lo_add (d + 1) (0, 0) Q 9 [.ref r0, .int x1, .int x2] [] μ
    obtain ⟨is1, h⟩ := h
    refine run_ok (pc' := 19) [(.aload_n 0, 0, 0, 0), (.getfield 9, 3, 0, 2), (.aload_n 0, 0, 0, 0), (.getfield 18, 3, 2, 0), (.iload_n 1, 0, 0, 0), (.iastore, 0, 0, 0)] _ _ _ _ (by decide +kernel) ?_
    show _ ∧ (∃ _, _ ∧ (_ ∧ (_ ∧ (_))))
    refine ⟨o_r0_3, r0_0, e_r0_0, o_r0_3, is1, ?_⟩
    show G Γ m_Lo_add (d + 1) (0, 0) Q 19 [.ref r0, .int x1, .int x2] [] (sI μ r0_0 (xI μ r0 2).toNatClampNeg x1)
    obtain ⟨μ2, em2⟩ : ∃ m : XM, m = sI μ r0_0 (xI μ r0 2).toNatClampNeg x1 := ⟨_, rfl⟩
    replace h := h μ2 em2
    have hm2 : xN μ ≤ xN μ2 := by rw [em2]; exact Nat.le_refl _
    rw [← em2]
    obtain ⟨is3, h⟩ := h
    refine run_ok (pc' := 29) [(.aload_n 0, 0, 0, 0), (.getfield 15, 3, 1, 2), (.aload_n 0, 0, 0, 0), (.getfield 18, 3, 2, 0), (.iload_n 2, 0, 0, 0), (.iastore, 0, 0, 0)] _ _ _ _ (by decide +kernel) ?_
    show _ ∧ (∃ _, _ ∧ (_ ∧ (_ ∧ (_))))
    refine ⟨((o_r0_3).mono hm2), r0_1, (by rw [em2]; exact e_r0_1), ((o_r0_3).mono hm2), is3, ?_⟩
    show G Γ m_Lo_add (d + 1) (0, 0) Q 29 [.ref r0, .int x1, .int x2] [] (sI μ2 r0_1 (xI μ2 r0 2).toNatClampNeg x2)
    obtain ⟨μ4, em4⟩ : ∃ m : XM, m = sI μ2 r0_1 (xI μ2 r0 2).toNatClampNeg x2 := ⟨_, rfl⟩
    replace h := h μ4 em4
    have hm4 : xN μ2 ≤ xN μ4 := by rw [em4]; exact Nat.le_refl _
    rw [← em4]
    refine run_ok (pc' := 39) [(.aload_n 0, 0, 0, 0), (.dup, 0, 0, 0), (.getfield 18, 3, 2, 0), (.iconst 1, 0, 0, 0), (.iadd, 0, 0, 0), (.putfield 18, 3, 2, 0)] _ _ _ _ (by decide +kernel) ?_
    show _ ∧ (_ ∧ (_))
    refine ⟨(((o_r0_3).mono hm2).mono hm4), (((o_r0_3).mono hm2).mono hm4), ?_⟩
    show G Γ m_Lo_add (d + 1) (0, 0) Q 39 [.ref r0, .int x1, .int x2] [] (sI μ4 r0 2 ((xI μ4 r0 2) + (w 1)))
    obtain ⟨μ5, em5⟩ : ∃ m : XM, m = sI μ4 r0 2 ((xI μ4 r0 2) + (w 1)) := ⟨_, rfl⟩
    replace h := h μ5 em5
    have hm5 : xN μ4 ≤ xN μ5 := by rw [em5]; exact Nat.le_refl _
    rw [← em5]
    exact g_retv (by decide +kernel) rfl h
/-! FrostBox$Looks held(LFrostBox$House;I)J -/
set_option maxRecDepth 100000 in
theorem B_Lo_held_0 {Γ : XG} {d : Nat} {Q : Option Value → XM → Prop} {r0 r1 : Nat} {x2 : Int32} {μ : XM}  (h : G Γ m_Lo_held (d + 1) (0, 0) Q 5 [.ref r0, .ref r1, .int x2, .long (wl 1), jk, .int (w 0)] [] μ) : G Γ m_Lo_held (d + 1) (0, 0) Q 0 [.ref r0, .ref r1, .int x2] [] μ := by
  refine run_ok (pc' := 5) [(.lconst 1, 0, 0, 1), (.lstore_n 3, 0, 0, 0), (.iconst 0, 0, 0, 0), (.istore 5, 0, 0, 0)] _ _ _ _ (by decide +kernel) ?_
  show G Γ m_Lo_held (d + 1) (0, 0) Q 5 [.ref r0, .ref r1, .int x2, .long (wl 1), jk, .int (w 0)] [] μ
  exact h
set_option maxRecDepth 100000 in
theorem B_Lo_held_5 {Γ : XG} {d : Nat} {Q : Option Value → XM → Prop} {r0 r1 r1_1 r0_0 r0_1 r1_0 : Nat} {x2 x5 : Int32} {y3 : Int64} {μ : XM} (o_r0_3 : ob μ r0 3) (o_r1_1 : ob μ r1 1) (e_r1_1 : xR μ r1 1 = some r1_1) (e_r0_0 : xR μ r0 0 = some r0_0) (e_r0_1 : xR μ r0 1 = some r0_1) (e_r1_0 : xR μ r1 0 = some r1_0) (h : ((x5 < xI μ r0 2 → inb μ 8 r1_1 x2 ∧ ∃ a1, xR μ r1_1 x2.toNatClampNeg = some a1 ∧ inb μ 0 r0_0 x5 ∧ inb μ 0 a1 (xI μ r0_0 x5.toNatClampNeg) ∧ inb μ 0 r0_1 x5 ∧ ((xI μ a1 (xI μ r0_0 x5.toNatClampNeg).toNatClampNeg = xI μ r0_1 x5.toNatClampNeg → ((w 1 = w 0 → inb μ 0 r1_0 (w 3) ∧ G Γ m_Lo_held (d + 1) (0, 0) Q 5 [.ref r0, .ref r1, .int x2, .long (y3 * ((xI μ r1_0 (w 3).toNatClampNeg).toInt64)), jk, .int (x5 + w 1)] [] μ) ∧ (¬ w 1 = w 0 → inb μ 0 r1_0 (w 3) ∧ G Γ m_Lo_held (d + 1) (0, 0) Q 5 [.ref r0, .ref r1, .int x2, .long (y3 * (((w 10) - (xI μ r1_0 (w 3).toNatClampNeg)).toInt64)), jk, .int (x5 + w 1)] [] μ))) ∧ (¬ xI μ a1 (xI μ r0_0 x5.toNatClampNeg).toNatClampNeg = xI μ r0_1 x5.toNatClampNeg → ((w 0 = w 0 → inb μ 0 r1_0 (w 3) ∧ G Γ m_Lo_held (d + 1) (0, 0) Q 5 [.ref r0, .ref r1, .int x2, .long (y3 * ((xI μ r1_0 (w 3).toNatClampNeg).toInt64)), jk, .int (x5 + w 1)] [] μ) ∧ (¬ w 0 = w 0 → inb μ 0 r1_0 (w 3) ∧ G Γ m_Lo_held (d + 1) (0, 0) Q 5 [.ref r0, .ref r1, .int x2, .long (y3 * (((w 10) - (xI μ r1_0 (w 3).toNatClampNeg)).toInt64)), jk, .int (x5 + w 1)] [] μ))))) ∧ (¬ x5 < xI μ r0 2 → Q (some (.long y3)) μ))) : G Γ m_Lo_held (d + 1) (0, 0) Q 5 [.ref r0, .ref r1, .int x2, .long y3, jk, .int x5] [] μ := by
  refine run_ok (pc' := 11) [(.iload 5, 0, 0, 0), (.aload_n 0, 0, 0, 0), (.getfield 18, 3, 2, 0)] _ _ _ _ (by decide +kernel) ?_
  show _ ∧ (_)
  refine ⟨o_r0_3, ?_⟩
  show G Γ m_Lo_held (d + 1) (0, 0) Q 11 [.ref r0, .ref r1, .int x2, .long y3, jk, .int x5] [.int (xI μ r0 2), .int x5] μ
  refine g_icmp_ge (pc' := 79) (off := 68) (by decide) (by decide +kernel) (fun hc => ?_) (fun hc => ?_)
  · replace h := h.2 hc
    show G Γ m_Lo_held (d + 1) (0, 0) Q 79 [.ref r0, .ref r1, .int x2, .long y3, jk, .int x5] [] μ
    refine run_ok (pc' := 80) [(.lload_n 3, 0, 0, 0)] _ _ _ _ (by decide +kernel) ?_
    show G Γ m_Lo_held (d + 1) (0, 0) Q 80 [.ref r0, .ref r1, .int x2, .long y3, jk, .int x5] [.long y3] μ
    exact g_retl (by decide +kernel) rfl h
  · replace h := h.1 hc
    show G Γ m_Lo_held (d + 1) (0, 0) Q 14 [.ref r0, .ref r1, .int x2, .long y3, jk, .int x5] [] μ
    obtain ⟨ib1, h⟩ := h
    obtain ⟨a1, ea1, h⟩ := h
    obtain ⟨ib2, h⟩ := h
    obtain ⟨ib3, h⟩ := h
    obtain ⟨ib4, h⟩ := h
    refine run_ok (pc' := 35) [(.aload_n 1, 0, 0, 0), (.getfield 22, 1, 1, 2), (.iload_n 2, 0, 0, 0), (.aaload, 8, 0, 0), (.aload_n 0, 0, 0, 0), (.getfield 9, 3, 0, 2), (.iload 5, 0, 0, 0), (.iaload, 0, 0, 0), (.iaload, 0, 0, 0), (.aload_n 0, 0, 0, 0), (.getfield 15, 3, 1, 2), (.iload 5, 0, 0, 0), (.iaload, 0, 0, 0)] _ _ _ _ (by decide +kernel) ?_
    show _ ∧ (∃ _, _ ∧ (_ ∧ (∃ _, _ ∧ (_ ∧ (∃ _, _ ∧ (_ ∧ (_ ∧ (_ ∧ (∃ _, _ ∧ (_ ∧ (_)))))))))))
    refine ⟨o_r1_1, r1_1, e_r1_1, ib1, a1, ea1, o_r0_3, r0_0, e_r0_0, ib2, ib3, o_r0_3, r0_1, e_r0_1, ib4, ?_⟩
    show G Γ m_Lo_held (d + 1) (0, 0) Q 35 [.ref r0, .ref r1, .int x2, .long y3, jk, .int x5] [.int (xI μ r0_1 x5.toNatClampNeg), .int (xI μ a1 (xI μ r0_0 x5.toNatClampNeg).toNatClampNeg)] μ
    refine g_icmp_ne (pc' := 42) (off := 7) (by decide) (by decide +kernel) (fun hc => ?_) (fun hc => ?_)
    · replace h := h.2 hc
      show G Γ m_Lo_held (d + 1) (0, 0) Q 42 [.ref r0, .ref r1, .int x2, .long y3, jk, .int x5] [] μ
      refine run_ok (pc' := 48) [(.iconst 0, 0, 0, 0), (.istore 6, 0, 0, 0), (.lload_n 3, 0, 0, 0), (.iload 6, 0, 0, 0)] _ _ _ _ (by decide +kernel) ?_
      show G Γ m_Lo_held (d + 1) (0, 0) Q 48 [.ref r0, .ref r1, .int x2, .long y3, jk, .int x5, .int (w 0)] [.int (w 0), .long y3] μ
      refine g_ifz_eq (pc' := 64) (off := 16) (by decide) (by decide +kernel) (fun hc => ?_) (fun hc => ?_)
      · replace h := h.1 hc
        show G Γ m_Lo_held (d + 1) (0, 0) Q 64 [.ref r0, .ref r1, .int x2, .long y3, jk, .int x5, .int (w 0)] [.long y3] μ
        obtain ⟨ib5, h⟩ := h
        refine run_ok (pc' := 5) [(.aload_n 1, 0, 0, 0), (.getfield 28, 1, 0, 2), (.iconst 3, 0, 0, 0), (.iaload, 0, 0, 0), (.i2l, 0, 0, 0), (.lmul, 0, 0, 0), (.lstore_n 3, 0, 0, 0), (.iinc 5 1, 0, 0, 0), (.goto (-71), 0, 0, 0)] _ _ _ _ (by decide +kernel) ?_
        show _ ∧ (∃ _, _ ∧ (_ ∧ (_)))
        refine ⟨o_r1_1, r1_0, e_r1_0, ib5, ?_⟩
        show G Γ m_Lo_held (d + 1) (0, 0) Q 5 [.ref r0, .ref r1, .int x2, .long (y3 * ((xI μ r1_0 (w 3).toNatClampNeg).toInt64)), jk, .int (x5 + w 1), .int (w 0)] [] μ
        exact g_wk (ls' := [.ref r0, .ref r1, .int x2, .long (y3 * ((xI μ r1_0 (w 3).toNatClampNeg).toInt64)), jk, .int (x5 + w 1)]) ⟨Or.inr rfl, Or.inr rfl, Or.inr rfl, Or.inr rfl, Or.inl rfl, Or.inr rfl, trivial⟩ h
      · replace h := h.2 hc
        show G Γ m_Lo_held (d + 1) (0, 0) Q 51 [.ref r0, .ref r1, .int x2, .long y3, jk, .int x5, .int (w 0)] [.long y3] μ
        obtain ⟨ib6, h⟩ := h
        refine run_ok (pc' := 5) [(.bipush 10, 0, 0, 0), (.aload_n 1, 0, 0, 0), (.getfield 28, 1, 0, 2), (.iconst 3, 0, 0, 0), (.iaload, 0, 0, 0), (.isub, 0, 0, 0), (.i2l, 0, 0, 0), (.goto 10, 0, 0, 0), (.lmul, 0, 0, 0), (.lstore_n 3, 0, 0, 0), (.iinc 5 1, 0, 0, 0), (.goto (-71), 0, 0, 0)] _ _ _ _ (by decide +kernel) ?_
        show _ ∧ (∃ _, _ ∧ (_ ∧ (_)))
        refine ⟨o_r1_1, r1_0, e_r1_0, ib6, ?_⟩
        show G Γ m_Lo_held (d + 1) (0, 0) Q 5 [.ref r0, .ref r1, .int x2, .long (y3 * (((w 10) - (xI μ r1_0 (w 3).toNatClampNeg)).toInt64)), jk, .int (x5 + w 1), .int (w 0)] [] μ
        exact g_wk (ls' := [.ref r0, .ref r1, .int x2, .long (y3 * (((w 10) - (xI μ r1_0 (w 3).toNatClampNeg)).toInt64)), jk, .int (x5 + w 1)]) ⟨Or.inr rfl, Or.inr rfl, Or.inr rfl, Or.inr rfl, Or.inl rfl, Or.inr rfl, trivial⟩ h
    · replace h := h.1 hc
      show G Γ m_Lo_held (d + 1) (0, 0) Q 38 [.ref r0, .ref r1, .int x2, .long y3, jk, .int x5] [] μ
      refine run_ok (pc' := 48) [(.iconst 1, 0, 0, 0), (.goto 4, 0, 0, 0), (.istore 6, 0, 0, 0), (.lload_n 3, 0, 0, 0), (.iload 6, 0, 0, 0)] _ _ _ _ (by decide +kernel) ?_
      show G Γ m_Lo_held (d + 1) (0, 0) Q 48 [.ref r0, .ref r1, .int x2, .long y3, jk, .int x5, .int (w 1)] [.int (w 1), .long y3] μ
      refine g_ifz_eq (pc' := 64) (off := 16) (by decide) (by decide +kernel) (fun hc => ?_) (fun hc => ?_)
      · replace h := h.1 hc
        show G Γ m_Lo_held (d + 1) (0, 0) Q 64 [.ref r0, .ref r1, .int x2, .long y3, jk, .int x5, .int (w 1)] [.long y3] μ
        obtain ⟨ib7, h⟩ := h
        refine run_ok (pc' := 5) [(.aload_n 1, 0, 0, 0), (.getfield 28, 1, 0, 2), (.iconst 3, 0, 0, 0), (.iaload, 0, 0, 0), (.i2l, 0, 0, 0), (.lmul, 0, 0, 0), (.lstore_n 3, 0, 0, 0), (.iinc 5 1, 0, 0, 0), (.goto (-71), 0, 0, 0)] _ _ _ _ (by decide +kernel) ?_
        show _ ∧ (∃ _, _ ∧ (_ ∧ (_)))
        refine ⟨o_r1_1, r1_0, e_r1_0, ib7, ?_⟩
        show G Γ m_Lo_held (d + 1) (0, 0) Q 5 [.ref r0, .ref r1, .int x2, .long (y3 * ((xI μ r1_0 (w 3).toNatClampNeg).toInt64)), jk, .int (x5 + w 1), .int (w 1)] [] μ
        exact g_wk (ls' := [.ref r0, .ref r1, .int x2, .long (y3 * ((xI μ r1_0 (w 3).toNatClampNeg).toInt64)), jk, .int (x5 + w 1)]) ⟨Or.inr rfl, Or.inr rfl, Or.inr rfl, Or.inr rfl, Or.inl rfl, Or.inr rfl, trivial⟩ h
      · replace h := h.2 hc
        show G Γ m_Lo_held (d + 1) (0, 0) Q 51 [.ref r0, .ref r1, .int x2, .long y3, jk, .int x5, .int (w 1)] [.long y3] μ
        obtain ⟨ib8, h⟩ := h
        refine run_ok (pc' := 5) [(.bipush 10, 0, 0, 0), (.aload_n 1, 0, 0, 0), (.getfield 28, 1, 0, 2), (.iconst 3, 0, 0, 0), (.iaload, 0, 0, 0), (.isub, 0, 0, 0), (.i2l, 0, 0, 0), (.goto 10, 0, 0, 0), (.lmul, 0, 0, 0), (.lstore_n 3, 0, 0, 0), (.iinc 5 1, 0, 0, 0), (.goto (-71), 0, 0, 0)] _ _ _ _ (by decide +kernel) ?_
        show _ ∧ (∃ _, _ ∧ (_ ∧ (_)))
        refine ⟨o_r1_1, r1_0, e_r1_0, ib8, ?_⟩
        show G Γ m_Lo_held (d + 1) (0, 0) Q 5 [.ref r0, .ref r1, .int x2, .long (y3 * (((w 10) - (xI μ r1_0 (w 3).toNatClampNeg)).toInt64)), jk, .int (x5 + w 1), .int (w 1)] [] μ
        exact g_wk (ls' := [.ref r0, .ref r1, .int x2, .long (y3 * (((w 10) - (xI μ r1_0 (w 3).toNatClampNeg)).toInt64)), jk, .int (x5 + w 1)]) ⟨Or.inr rfl, Or.inr rfl, Or.inr rfl, Or.inr rfl, Or.inl rfl, Or.inr rfl, trivial⟩ h
/-! FrostBox$Looks likeliest(LFrostBox$House;)I -/
set_option maxRecDepth 100000 in
theorem lk_3_32 : LkV 3 32 m_Lo_held 2 := ⟨lc_Lo_held, lwG_in (List.mem_of_getElem? (i := 1022) rfl) rfl, lwG_in (List.mem_of_getElem? (i := 1023) rfl) rfl, lwG_in (List.mem_of_getElem? (i := 1024) rfl) rfl⟩
set_option maxRecDepth 100000 in
theorem B_Lo_likeliest_0 {Γ : XG} {d : Nat} {Q : Option Value → XM → Prop} {r0 r1 : Nat} {μ : XM}  (h : G Γ m_Lo_likeliest (d + 1) (0, 0) Q 4 [.ref r0, .ref r1, .int (w 0), .int (w 1)] [] μ) : G Γ m_Lo_likeliest (d + 1) (0, 0) Q 0 [.ref r0, .ref r1] [] μ := by
  refine run_ok (pc' := 4) [(.iconst 0, 0, 0, 0), (.istore_n 2, 0, 0, 0), (.iconst 1, 0, 0, 0), (.istore_n 3, 0, 0, 0)] _ _ _ _ (by decide +kernel) ?_
  show G Γ m_Lo_likeliest (d + 1) (0, 0) Q 4 [.ref r0, .ref r1, .int (w 0), .int (w 1)] [] μ
  exact h
set_option maxRecDepth 100000 in
theorem B_Lo_likeliest_4 {Γ : XG} {d : Nat} {Q : Option Value → XM → Prop} {r0 r1 : Nat} {x2 x3 : Int32} {μ : XM} (o_r1_1 : ob μ r1 1) (o_r0_3 : ob μ r0 3) (h : ((x3 < xI μ r1 4 → Call Γ m_Lo_held d [.ref r0, .ref r1, .int x3] μ (KL (fun v1 μ1 => Call Γ m_Lo_held d [.ref r0, .ref r1, .int x2] μ1 (KL (fun v2 μ2 => ((w 0 < lg_cmp v1 v2 → G Γ m_Lo_likeliest (d + 1) (0, 0) Q 4 [.ref r0, .ref r1, .int x3, .int (x3 + w 1)] [] μ2) ∧ (¬ w 0 < lg_cmp v1 v2 → G Γ m_Lo_likeliest (d + 1) (0, 0) Q 4 [.ref r0, .ref r1, .int x2, .int (x3 + w 1)] [] μ2))))))) ∧ (¬ x3 < xI μ r1 4 → Q (some (.int x2)) μ))) : G Γ m_Lo_likeliest (d + 1) (0, 0) Q 4 [.ref r0, .ref r1, .int x2, .int x3] [] μ := by
  refine run_ok (pc' := 9) [(.iload_n 3, 0, 0, 0), (.aload_n 1, 0, 0, 0), (.getfield 31, 1, 4, 0)] _ _ _ _ (by decide +kernel) ?_
  show _ ∧ (_)
  refine ⟨o_r1_1, ?_⟩
  show G Γ m_Lo_likeliest (d + 1) (0, 0) Q 9 [.ref r0, .ref r1, .int x2, .int x3] [.int (xI μ r1 4), .int x3] μ
  refine g_icmp_ge (pc' := 36) (off := 27) (by decide) (by decide +kernel) (fun hc => ?_) (fun hc => ?_)
  · replace h := h.2 hc
    show G Γ m_Lo_likeliest (d + 1) (0, 0) Q 36 [.ref r0, .ref r1, .int x2, .int x3] [] μ
    refine run_ok (pc' := 37) [(.iload_n 2, 0, 0, 0)] _ _ _ _ (by decide +kernel) ?_
    show G Γ m_Lo_likeliest (d + 1) (0, 0) Q 37 [.ref r0, .ref r1, .int x2, .int x3] [.int x2] μ
    exact g_reti (by decide +kernel) rfl h
  · replace h := h.1 hc
    show G Γ m_Lo_likeliest (d + 1) (0, 0) Q 12 [.ref r0, .ref r1, .int x2, .int x3] [] μ
    refine run_ok (pc' := 15) [(.aload_n 0, 0, 0, 0), (.aload_n 1, 0, 0, 0), (.iload_n 3, 0, 0, 0)] _ _ _ _ (by decide +kernel) ?_
    show G Γ m_Lo_likeliest (d + 1) (0, 0) Q 15 [.ref r0, .ref r1, .int x2, .int x3] [.int x3, .ref r1, .ref r0] μ
    refine g_invV (M' := m_Lo_held) (b1 := 0) (b2 := 0) (As := [.ref r1, .int x3]) (a := r0) (st := []) lk_3_32 (by decide +kernel) rfl (dk_Lo_held d) (Nat.le_of_ble_eq_true rfl) (Or.inl ⟨3, o_r0_3, rfl⟩) h ?_
    rintro _ μ1 ⟨v1, rfl, h⟩ hn1
    show G Γ m_Lo_likeliest (d + 1) (0, 0) Q 18 [.ref r0, .ref r1, .int x2, .int x3] [.long v1] μ1
    refine run_ok (pc' := 21) [(.aload_n 0, 0, 0, 0), (.aload_n 1, 0, 0, 0), (.iload_n 2, 0, 0, 0)] _ _ _ _ (by decide +kernel) ?_
    show G Γ m_Lo_likeliest (d + 1) (0, 0) Q 21 [.ref r0, .ref r1, .int x2, .int x3] [.int x2, .ref r1, .ref r0, .long v1] μ1
    refine g_invV (M' := m_Lo_held) (b1 := 0) (b2 := 0) (As := [.ref r1, .int x2]) (a := r0) (st := [.long v1]) lk_3_32 (by decide +kernel) rfl (dk_Lo_held d) (Nat.le_of_ble_eq_true rfl) (Or.inl ⟨3, ((o_r0_3).mono hn1), rfl⟩) h ?_
    rintro _ μ2 ⟨v2, rfl, h⟩ hn2
    show G Γ m_Lo_likeliest (d + 1) (0, 0) Q 24 [.ref r0, .ref r1, .int x2, .int x3] [.long v2, .long v1] μ2
    refine run_ok (pc' := 25) [(.lcmp, 0, 0, 0)] _ _ _ _ (by decide +kernel) ?_
    show G Γ m_Lo_likeliest (d + 1) (0, 0) Q 25 [.ref r0, .ref r1, .int x2, .int x3] [.int (lg_cmp v1 v2)] μ2
    refine g_ifz_le (pc' := 30) (off := 5) (by decide) (by decide +kernel) (fun hc => ?_) (fun hc => ?_)
    · replace h := h.2 hc
      show G Γ m_Lo_likeliest (d + 1) (0, 0) Q 30 [.ref r0, .ref r1, .int x2, .int x3] [] μ2
      refine run_ok (pc' := 4) [(.iinc 3 1, 0, 0, 0), (.goto (-29), 0, 0, 0)] _ _ _ _ (by decide +kernel) ?_
      show G Γ m_Lo_likeliest (d + 1) (0, 0) Q 4 [.ref r0, .ref r1, .int x2, .int (x3 + w 1)] [] μ2
      exact h
    · replace h := h.1 hc
      show G Γ m_Lo_likeliest (d + 1) (0, 0) Q 28 [.ref r0, .ref r1, .int x2, .int x3] [] μ2
      refine run_ok (pc' := 4) [(.iload_n 3, 0, 0, 0), (.istore_n 2, 0, 0, 0), (.iinc 3 1, 0, 0, 0), (.goto (-29), 0, 0, 0)] _ _ _ _ (by decide +kernel) ?_
      show G Γ m_Lo_likeliest (d + 1) (0, 0) Q 4 [.ref r0, .ref r1, .int x3, .int (x3 + w 1)] [] μ2
      exact h
/-! FrostBox$Looks sureOf(LFrostBox$House;I)I -/
set_option maxRecDepth 100000 in
theorem B_Lo_sureOf_0 {Γ : XG} {d : Nat} {Q : Option Value → XM → Prop} {r0 r1 : Nat} {x2 : Int32} {μ : XM}  (h : G Γ m_Lo_sureOf (d + 1) (0, 0) Q 5 [.ref r0, .ref r1, .int x2, .long (wl 0), jk, .int (w 0)] [] μ) : G Γ m_Lo_sureOf (d + 1) (0, 0) Q 0 [.ref r0, .ref r1, .int x2] [] μ := by
  refine run_ok (pc' := 5) [(.lconst 0, 0, 0, 0), (.lstore_n 3, 0, 0, 0), (.iconst 0, 0, 0, 0), (.istore 5, 0, 0, 0)] _ _ _ _ (by decide +kernel) ?_
  show G Γ m_Lo_sureOf (d + 1) (0, 0) Q 5 [.ref r0, .ref r1, .int x2, .long (wl 0), jk, .int (w 0)] [] μ
  exact h
set_option maxRecDepth 100000 in
theorem B_Lo_sureOf_5 {Γ : XG} {d : Nat} {Q : Option Value → XM → Prop} {r0 r1 : Nat} {x2 x5 : Int32} {y3 : Int64} {μ : XM} (o_r1_1 : ob μ r1 1) (o_r0_3 : ob μ r0 3) (h : ((x5 < xI μ r1 4 → Call Γ m_Lo_held d [.ref r0, .ref r1, .int x5] μ (KL (fun v3 μ3 => G Γ m_Lo_sureOf (d + 1) (0, 0) Q 5 [.ref r0, .ref r1, .int x2, .long (y3 + v3), jk, .int (x5 + w 1)] [] μ3))) ∧ (¬ x5 < xI μ r1 4 → ((w 0 < lg_cmp y3 (wl 0) → Call Γ m_Lo_held d [.ref r0, .ref r1, .int x2] μ (KL (fun v1 μ1 => ¬ y3 = 0 ∧ Q (some (.int (((v1 * (wl 1000)) / y3).toInt32))) μ1))) ∧ (¬ w 0 < lg_cmp y3 (wl 0) → Q (some (.int (w 0))) μ))))) : G Γ m_Lo_sureOf (d + 1) (0, 0) Q 5 [.ref r0, .ref r1, .int x2, .long y3, jk, .int x5] [] μ := by
  refine run_ok (pc' := 11) [(.iload 5, 0, 0, 0), (.aload_n 1, 0, 0, 0), (.getfield 31, 1, 4, 0)] _ _ _ _ (by decide +kernel) ?_
  show _ ∧ (_)
  refine ⟨o_r1_1, ?_⟩
  show G Γ m_Lo_sureOf (d + 1) (0, 0) Q 11 [.ref r0, .ref r1, .int x2, .long y3, jk, .int x5] [.int (xI μ r1 4), .int x5] μ
  refine g_icmp_ge (pc' := 30) (off := 19) (by decide) (by decide +kernel) (fun hc => ?_) (fun hc => ?_)
  · replace h := h.2 hc
    show G Γ m_Lo_sureOf (d + 1) (0, 0) Q 30 [.ref r0, .ref r1, .int x2, .long y3, jk, .int x5] [] μ
    refine run_ok (pc' := 33) [(.lload_n 3, 0, 0, 0), (.lconst 0, 0, 0, 0), (.lcmp, 0, 0, 0)] _ _ _ _ (by decide +kernel) ?_
    show G Γ m_Lo_sureOf (d + 1) (0, 0) Q 33 [.ref r0, .ref r1, .int x2, .long y3, jk, .int x5] [.int (lg_cmp y3 (wl 0))] μ
    refine g_ifz_le (pc' := 52) (off := 19) (by decide) (by decide +kernel) (fun hc => ?_) (fun hc => ?_)
    · replace h := h.2 hc
      show G Γ m_Lo_sureOf (d + 1) (0, 0) Q 52 [.ref r0, .ref r1, .int x2, .long y3, jk, .int x5] [] μ
      refine run_ok (pc' := 53) [(.iconst 0, 0, 0, 0)] _ _ _ _ (by decide +kernel) ?_
      show G Γ m_Lo_sureOf (d + 1) (0, 0) Q 53 [.ref r0, .ref r1, .int x2, .long y3, jk, .int x5] [.int (w 0)] μ
      exact g_reti (by decide +kernel) rfl h
    · replace h := h.1 hc
      show G Γ m_Lo_sureOf (d + 1) (0, 0) Q 36 [.ref r0, .ref r1, .int x2, .long y3, jk, .int x5] [] μ
      refine run_ok (pc' := 39) [(.aload_n 0, 0, 0, 0), (.aload_n 1, 0, 0, 0), (.iload_n 2, 0, 0, 0)] _ _ _ _ (by decide +kernel) ?_
      show G Γ m_Lo_sureOf (d + 1) (0, 0) Q 39 [.ref r0, .ref r1, .int x2, .long y3, jk, .int x5] [.int x2, .ref r1, .ref r0] μ
      refine g_invV (M' := m_Lo_held) (b1 := 0) (b2 := 0) (As := [.ref r1, .int x2]) (a := r0) (st := []) lk_3_32 (by decide +kernel) rfl (dk_Lo_held d) (Nat.le_of_ble_eq_true rfl) (Or.inl ⟨3, o_r0_3, rfl⟩) h ?_
      rintro _ μ1 ⟨v1, rfl, h⟩ hn1
      show G Γ m_Lo_sureOf (d + 1) (0, 0) Q 42 [.ref r0, .ref r1, .int x2, .long y3, jk, .int x5] [.long v1] μ1
      obtain ⟨nz2, h⟩ := h
      refine run_ok (pc' := 53) [(.ldc2_w 36, 0, 0, 1000), (.lmul, 0, 0, 0), (.lload_n 3, 0, 0, 0), (.ldiv, 0, 0, 0), (.l2i, 0, 0, 0), (.goto 4, 0, 0, 0)] _ _ _ _ (by decide +kernel) ?_
      show _ ∧ (_)
      refine ⟨nz2, ?_⟩
      show G Γ m_Lo_sureOf (d + 1) (0, 0) Q 53 [.ref r0, .ref r1, .int x2, .long y3, jk, .int x5] [.int (((v1 * (wl 1000)) / y3).toInt32)] μ1
      exact g_reti (by decide +kernel) rfl h
  · replace h := h.1 hc
    show G Γ m_Lo_sureOf (d + 1) (0, 0) Q 14 [.ref r0, .ref r1, .int x2, .long y3, jk, .int x5] [] μ
    refine run_ok (pc' := 19) [(.lload_n 3, 0, 0, 0), (.aload_n 0, 0, 0, 0), (.aload_n 1, 0, 0, 0), (.iload 5, 0, 0, 0)] _ _ _ _ (by decide +kernel) ?_
    show G Γ m_Lo_sureOf (d + 1) (0, 0) Q 19 [.ref r0, .ref r1, .int x2, .long y3, jk, .int x5] [.int x5, .ref r1, .ref r0, .long y3] μ
    refine g_invV (M' := m_Lo_held) (b1 := 0) (b2 := 0) (As := [.ref r1, .int x5]) (a := r0) (st := [.long y3]) lk_3_32 (by decide +kernel) rfl (dk_Lo_held d) (Nat.le_of_ble_eq_true rfl) (Or.inl ⟨3, o_r0_3, rfl⟩) h ?_
    rintro _ μ3 ⟨v3, rfl, h⟩ hn3
    show G Γ m_Lo_sureOf (d + 1) (0, 0) Q 22 [.ref r0, .ref r1, .int x2, .long y3, jk, .int x5] [.long v3, .long y3] μ3
    refine run_ok (pc' := 5) [(.ladd, 0, 0, 0), (.lstore_n 3, 0, 0, 0), (.iinc 5 1, 0, 0, 0), (.goto (-22), 0, 0, 0)] _ _ _ _ (by decide +kernel) ?_
    show G Γ m_Lo_sureOf (d + 1) (0, 0) Q 5 [.ref r0, .ref r1, .int x2, .long (y3 + v3), jk, .int (x5 + w 1)] [] μ3
    exact h
/-! FrostBox$Looks greatestAlike(LFrostBox$House;I)J -/
set_option maxRecDepth 100000 in
theorem lm_3_38 : Lk_maxL 3 38 := ⟨lwG_in (List.mem_of_getElem? (i := 1026) rfl) rfl, lwG_in (List.mem_of_getElem? (i := 746) rfl) rfl, lwG_in (List.mem_of_getElem? (i := 130) rfl) rfl, lwG_in (List.mem_of_getElem? (i := 747) rfl) rfl⟩
set_option maxRecDepth 100000 in
theorem B_Lo_greatestAlike_0 {Γ : XG} {d : Nat} {Q : Option Value → XM → Prop} {r0 r1 : Nat} {x2 : Int32} {μ : XM}  (h : G Γ m_Lo_greatestAlike (d + 1) (0, 0) Q 5 [.ref r0, .ref r1, .int x2, .long (wl 0), jk, .int (w 0)] [] μ) : G Γ m_Lo_greatestAlike (d + 1) (0, 0) Q 0 [.ref r0, .ref r1, .int x2] [] μ := by
  refine run_ok (pc' := 5) [(.lconst 0, 0, 0, 0), (.lstore_n 3, 0, 0, 0), (.iconst 0, 0, 0, 0), (.istore 5, 0, 0, 0)] _ _ _ _ (by decide +kernel) ?_
  show G Γ m_Lo_greatestAlike (d + 1) (0, 0) Q 5 [.ref r0, .ref r1, .int x2, .long (wl 0), jk, .int (w 0)] [] μ
  exact h
set_option maxRecDepth 100000 in
theorem B_Lo_greatestAlike_5 {Γ : XG} {d : Nat} {Q : Option Value → XM → Prop} {r0 r1 : Nat} {x2 x5 : Int32} {y3 : Int64} {μ : XM} (o_r1_1 : ob μ r1 1) (h : ((x5 < xI μ r1 4 → G Γ m_Lo_greatestAlike (d + 1) (0, 0) Q 20 [.ref r0, .ref r1, .int x2, .long y3, jk, .int x5, .long (wl 0), jk, .int (w 0)] [] μ) ∧ (¬ x5 < xI μ r1 4 → Q (some (.long y3)) μ))) : G Γ m_Lo_greatestAlike (d + 1) (0, 0) Q 5 [.ref r0, .ref r1, .int x2, .long y3, jk, .int x5] [] μ := by
  refine run_ok (pc' := 11) [(.iload 5, 0, 0, 0), (.aload_n 1, 0, 0, 0), (.getfield 31, 1, 4, 0)] _ _ _ _ (by decide +kernel) ?_
  show _ ∧ (_)
  refine ⟨o_r1_1, ?_⟩
  show G Γ m_Lo_greatestAlike (d + 1) (0, 0) Q 11 [.ref r0, .ref r1, .int x2, .long y3, jk, .int x5] [.int (xI μ r1 4), .int x5] μ
  refine g_icmp_ge (pc' := 97) (off := 86) (by decide) (by decide +kernel) (fun hc => ?_) (fun hc => ?_)
  · replace h := h.2 hc
    show G Γ m_Lo_greatestAlike (d + 1) (0, 0) Q 97 [.ref r0, .ref r1, .int x2, .long y3, jk, .int x5] [] μ
    refine run_ok (pc' := 98) [(.lload_n 3, 0, 0, 0)] _ _ _ _ (by decide +kernel) ?_
    show G Γ m_Lo_greatestAlike (d + 1) (0, 0) Q 98 [.ref r0, .ref r1, .int x2, .long y3, jk, .int x5] [.long y3] μ
    exact g_retl (by decide +kernel) rfl h
  · replace h := h.1 hc
    show G Γ m_Lo_greatestAlike (d + 1) (0, 0) Q 14 [.ref r0, .ref r1, .int x2, .long y3, jk, .int x5] [] μ
    refine run_ok (pc' := 20) [(.lconst 0, 0, 0, 0), (.lstore 6, 0, 0, 0), (.iconst 0, 0, 0, 0), (.istore 8, 0, 0, 0)] _ _ _ _ (by decide +kernel) ?_
    show G Γ m_Lo_greatestAlike (d + 1) (0, 0) Q 20 [.ref r0, .ref r1, .int x2, .long y3, jk, .int x5, .long (wl 0), jk, .int (w 0)] [] μ
    exact h
set_option maxRecDepth 100000 in
theorem B_Lo_greatestAlike_20 {Γ : XG} {d : Nat} {Q : Option Value → XM → Prop} {r0 r1 r1_1 : Nat} {x2 x5 x8 : Int32} {y3 y6 : Int64} {μ : XM} (o_r1_1 : ob μ r1 1) (e_r1_1 : xR μ r1 1 = some r1_1) (o_r0_3 : ob μ r0 3) (h : ((x8 < xI μ r1 4 → inb μ 8 r1_1 x8 ∧ ∃ a1, xR μ r1_1 x8.toNatClampNeg = some a1 ∧ inb μ 0 a1 x2 ∧ inb μ 8 r1_1 x5 ∧ ∃ a3, xR μ r1_1 x5.toNatClampNeg = some a3 ∧ inb μ 0 a3 x2 ∧ ((xI μ a1 x2.toNatClampNeg = xI μ a3 x2.toNatClampNeg → ((w 1 = w 0 → G Γ m_Lo_greatestAlike (d + 1) (0, 0) Q 20 [.ref r0, .ref r1, .int x2, .long y3, jk, .int x5, .long (y6 + (wl 0)), jk, .int (x8 + w 1)] [] μ) ∧ (¬ w 1 = w 0 → Call Γ m_Lo_held d [.ref r0, .ref r1, .int x8] μ (KL (fun v6 μ6 => G Γ m_Lo_greatestAlike (d + 1) (0, 0) Q 20 [.ref r0, .ref r1, .int x2, .long y3, jk, .int x5, .long (y6 + v6), jk, .int (x8 + w 1)] [] μ6))))) ∧ (¬ xI μ a1 x2.toNatClampNeg = xI μ a3 x2.toNatClampNeg → ((w 0 = w 0 → G Γ m_Lo_greatestAlike (d + 1) (0, 0) Q 20 [.ref r0, .ref r1, .int x2, .long y3, jk, .int x5, .long (y6 + (wl 0)), jk, .int (x8 + w 1)] [] μ) ∧ (¬ w 0 = w 0 → Call Γ m_Lo_held d [.ref r0, .ref r1, .int x8] μ (KL (fun v5 μ5 => G Γ m_Lo_greatestAlike (d + 1) (0, 0) Q 20 [.ref r0, .ref r1, .int x2, .long y3, jk, .int x5, .long (y6 + v5), jk, .int (x8 + w 1)] [] μ5))))))) ∧ (¬ x8 < xI μ r1 4 → G Γ m_Lo_greatestAlike (d + 1) (0, 0) Q 5 [.ref r0, .ref r1, .int x2, .long (jmaxL y3 y6), jk, .int (x5 + w 1)] [] μ))) : G Γ m_Lo_greatestAlike (d + 1) (0, 0) Q 20 [.ref r0, .ref r1, .int x2, .long y3, jk, .int x5, .long y6, jk, .int x8] [] μ := by
  refine run_ok (pc' := 26) [(.iload 8, 0, 0, 0), (.aload_n 1, 0, 0, 0), (.getfield 31, 1, 4, 0)] _ _ _ _ (by decide +kernel) ?_
  show _ ∧ (_)
  refine ⟨o_r1_1, ?_⟩
  show G Γ m_Lo_greatestAlike (d + 1) (0, 0) Q 26 [.ref r0, .ref r1, .int x2, .long y3, jk, .int x5, .long y6, jk, .int x8] [.int (xI μ r1 4), .int x8] μ
  refine g_icmp_ge (pc' := 84) (off := 58) (by decide) (by decide +kernel) (fun hc => ?_) (fun hc => ?_)
  · replace h := h.2 hc
    show G Γ m_Lo_greatestAlike (d + 1) (0, 0) Q 84 [.ref r0, .ref r1, .int x2, .long y3, jk, .int x5, .long y6, jk, .int x8] [] μ
    refine run_ok (pc' := 87) [(.lload_n 3, 0, 0, 0), (.lload 6, 0, 0, 0)] _ _ _ _ (by decide +kernel) ?_
    show G Γ m_Lo_greatestAlike (d + 1) (0, 0) Q 87 [.ref r0, .ref r1, .int x2, .long y3, jk, .int x5, .long y6, jk, .int x8] [.long y6, .long y3] μ
    refine g_maxL (i := 38) lm_3_38 (Nat.le_of_ble_eq_true rfl) (by decide +kernel) ?_
    show G Γ m_Lo_greatestAlike (d + 1) (0, 0) Q 90 [.ref r0, .ref r1, .int x2, .long y3, jk, .int x5, .long y6, jk, .int x8] [.long (jmaxL y3 y6)] μ
    refine run_ok (pc' := 5) [(.lstore_n 3, 0, 0, 0), (.iinc 5 1, 0, 0, 0), (.goto (-89), 0, 0, 0)] _ _ _ _ (by decide +kernel) ?_
    show G Γ m_Lo_greatestAlike (d + 1) (0, 0) Q 5 [.ref r0, .ref r1, .int x2, .long (jmaxL y3 y6), jk, .int (x5 + w 1), .long y6, jk, .int x8] [] μ
    exact g_wk (ls' := [.ref r0, .ref r1, .int x2, .long (jmaxL y3 y6), jk, .int (x5 + w 1)]) ⟨Or.inr rfl, Or.inr rfl, Or.inr rfl, Or.inr rfl, Or.inl rfl, Or.inr rfl, trivial⟩ h
  · replace h := h.1 hc
    show G Γ m_Lo_greatestAlike (d + 1) (0, 0) Q 29 [.ref r0, .ref r1, .int x2, .long y3, jk, .int x5, .long y6, jk, .int x8] [] μ
    obtain ⟨ib1, h⟩ := h
    obtain ⟨a1, ea1, h⟩ := h
    obtain ⟨ib2, h⟩ := h
    obtain ⟨ib3, h⟩ := h
    obtain ⟨a3, ea3, h⟩ := h
    obtain ⟨ib4, h⟩ := h
    refine run_ok (pc' := 47) [(.aload_n 1, 0, 0, 0), (.getfield 22, 1, 1, 2), (.iload 8, 0, 0, 0), (.aaload, 8, 0, 0), (.iload_n 2, 0, 0, 0), (.iaload, 0, 0, 0), (.aload_n 1, 0, 0, 0), (.getfield 22, 1, 1, 2), (.iload 5, 0, 0, 0), (.aaload, 8, 0, 0), (.iload_n 2, 0, 0, 0), (.iaload, 0, 0, 0)] _ _ _ _ (by decide +kernel) ?_
    show _ ∧ (∃ _, _ ∧ (_ ∧ (∃ _, _ ∧ (_ ∧ (_ ∧ (∃ _, _ ∧ (_ ∧ (∃ _, _ ∧ (_ ∧ (_))))))))))
    refine ⟨o_r1_1, r1_1, e_r1_1, ib1, a1, ea1, ib2, o_r1_1, r1_1, e_r1_1, ib3, a3, ea3, ib4, ?_⟩
    show G Γ m_Lo_greatestAlike (d + 1) (0, 0) Q 47 [.ref r0, .ref r1, .int x2, .long y3, jk, .int x5, .long y6, jk, .int x8] [.int (xI μ a3 x2.toNatClampNeg), .int (xI μ a1 x2.toNatClampNeg)] μ
    refine g_icmp_ne (pc' := 54) (off := 7) (by decide) (by decide +kernel) (fun hc => ?_) (fun hc => ?_)
    · replace h := h.2 hc
      show G Γ m_Lo_greatestAlike (d + 1) (0, 0) Q 54 [.ref r0, .ref r1, .int x2, .long y3, jk, .int x5, .long y6, jk, .int x8] [] μ
      refine run_ok (pc' := 61) [(.iconst 0, 0, 0, 0), (.istore 9, 0, 0, 0), (.lload 6, 0, 0, 0), (.iload 9, 0, 0, 0)] _ _ _ _ (by decide +kernel) ?_
      show G Γ m_Lo_greatestAlike (d + 1) (0, 0) Q 61 [.ref r0, .ref r1, .int x2, .long y3, jk, .int x5, .long y6, jk, .int x8, .int (w 0)] [.int (w 0), .long y6] μ
      refine g_ifz_eq (pc' := 74) (off := 13) (by decide) (by decide +kernel) (fun hc => ?_) (fun hc => ?_)
      · replace h := h.1 hc
        show G Γ m_Lo_greatestAlike (d + 1) (0, 0) Q 74 [.ref r0, .ref r1, .int x2, .long y3, jk, .int x5, .long y6, jk, .int x8, .int (w 0)] [.long y6] μ
        refine run_ok (pc' := 20) [(.lconst 0, 0, 0, 0), (.ladd, 0, 0, 0), (.lstore 6, 0, 0, 0), (.iinc 8 1, 0, 0, 0), (.goto (-61), 0, 0, 0)] _ _ _ _ (by decide +kernel) ?_
        show G Γ m_Lo_greatestAlike (d + 1) (0, 0) Q 20 [.ref r0, .ref r1, .int x2, .long y3, jk, .int x5, .long (y6 + (wl 0)), jk, .int (x8 + w 1), .int (w 0)] [] μ
        exact g_wk (ls' := [.ref r0, .ref r1, .int x2, .long y3, jk, .int x5, .long (y6 + (wl 0)), jk, .int (x8 + w 1)]) ⟨Or.inr rfl, Or.inr rfl, Or.inr rfl, Or.inr rfl, Or.inl rfl, Or.inr rfl, Or.inr rfl, Or.inl rfl, Or.inr rfl, trivial⟩ h
      · replace h := h.2 hc
        show G Γ m_Lo_greatestAlike (d + 1) (0, 0) Q 64 [.ref r0, .ref r1, .int x2, .long y3, jk, .int x5, .long y6, jk, .int x8, .int (w 0)] [.long y6] μ
        refine run_ok (pc' := 68) [(.aload_n 0, 0, 0, 0), (.aload_n 1, 0, 0, 0), (.iload 8, 0, 0, 0)] _ _ _ _ (by decide +kernel) ?_
        show G Γ m_Lo_greatestAlike (d + 1) (0, 0) Q 68 [.ref r0, .ref r1, .int x2, .long y3, jk, .int x5, .long y6, jk, .int x8, .int (w 0)] [.int x8, .ref r1, .ref r0, .long y6] μ
        refine g_invV (M' := m_Lo_held) (b1 := 0) (b2 := 0) (As := [.ref r1, .int x8]) (a := r0) (st := [.long y6]) lk_3_32 (by decide +kernel) rfl (dk_Lo_held d) (Nat.le_of_ble_eq_true rfl) (Or.inl ⟨3, o_r0_3, rfl⟩) h ?_
        rintro _ μ5 ⟨v5, rfl, h⟩ hn5
        show G Γ m_Lo_greatestAlike (d + 1) (0, 0) Q 71 [.ref r0, .ref r1, .int x2, .long y3, jk, .int x5, .long y6, jk, .int x8, .int (w 0)] [.long v5, .long y6] μ5
        refine run_ok (pc' := 20) [(.goto 4, 0, 0, 0), (.ladd, 0, 0, 0), (.lstore 6, 0, 0, 0), (.iinc 8 1, 0, 0, 0), (.goto (-61), 0, 0, 0)] _ _ _ _ (by decide +kernel) ?_
        show G Γ m_Lo_greatestAlike (d + 1) (0, 0) Q 20 [.ref r0, .ref r1, .int x2, .long y3, jk, .int x5, .long (y6 + v5), jk, .int (x8 + w 1), .int (w 0)] [] μ5
        exact g_wk (ls' := [.ref r0, .ref r1, .int x2, .long y3, jk, .int x5, .long (y6 + v5), jk, .int (x8 + w 1)]) ⟨Or.inr rfl, Or.inr rfl, Or.inr rfl, Or.inr rfl, Or.inl rfl, Or.inr rfl, Or.inr rfl, Or.inl rfl, Or.inr rfl, trivial⟩ h
    · replace h := h.1 hc
      show G Γ m_Lo_greatestAlike (d + 1) (0, 0) Q 50 [.ref r0, .ref r1, .int x2, .long y3, jk, .int x5, .long y6, jk, .int x8] [] μ
      refine run_ok (pc' := 61) [(.iconst 1, 0, 0, 0), (.goto 4, 0, 0, 0), (.istore 9, 0, 0, 0), (.lload 6, 0, 0, 0), (.iload 9, 0, 0, 0)] _ _ _ _ (by decide +kernel) ?_
      show G Γ m_Lo_greatestAlike (d + 1) (0, 0) Q 61 [.ref r0, .ref r1, .int x2, .long y3, jk, .int x5, .long y6, jk, .int x8, .int (w 1)] [.int (w 1), .long y6] μ
      refine g_ifz_eq (pc' := 74) (off := 13) (by decide) (by decide +kernel) (fun hc => ?_) (fun hc => ?_)
      · replace h := h.1 hc
        show G Γ m_Lo_greatestAlike (d + 1) (0, 0) Q 74 [.ref r0, .ref r1, .int x2, .long y3, jk, .int x5, .long y6, jk, .int x8, .int (w 1)] [.long y6] μ
        refine run_ok (pc' := 20) [(.lconst 0, 0, 0, 0), (.ladd, 0, 0, 0), (.lstore 6, 0, 0, 0), (.iinc 8 1, 0, 0, 0), (.goto (-61), 0, 0, 0)] _ _ _ _ (by decide +kernel) ?_
        show G Γ m_Lo_greatestAlike (d + 1) (0, 0) Q 20 [.ref r0, .ref r1, .int x2, .long y3, jk, .int x5, .long (y6 + (wl 0)), jk, .int (x8 + w 1), .int (w 1)] [] μ
        exact g_wk (ls' := [.ref r0, .ref r1, .int x2, .long y3, jk, .int x5, .long (y6 + (wl 0)), jk, .int (x8 + w 1)]) ⟨Or.inr rfl, Or.inr rfl, Or.inr rfl, Or.inr rfl, Or.inl rfl, Or.inr rfl, Or.inr rfl, Or.inl rfl, Or.inr rfl, trivial⟩ h
      · replace h := h.2 hc
        show G Γ m_Lo_greatestAlike (d + 1) (0, 0) Q 64 [.ref r0, .ref r1, .int x2, .long y3, jk, .int x5, .long y6, jk, .int x8, .int (w 1)] [.long y6] μ
        refine run_ok (pc' := 68) [(.aload_n 0, 0, 0, 0), (.aload_n 1, 0, 0, 0), (.iload 8, 0, 0, 0)] _ _ _ _ (by decide +kernel) ?_
        show G Γ m_Lo_greatestAlike (d + 1) (0, 0) Q 68 [.ref r0, .ref r1, .int x2, .long y3, jk, .int x5, .long y6, jk, .int x8, .int (w 1)] [.int x8, .ref r1, .ref r0, .long y6] μ
        refine g_invV (M' := m_Lo_held) (b1 := 0) (b2 := 0) (As := [.ref r1, .int x8]) (a := r0) (st := [.long y6]) lk_3_32 (by decide +kernel) rfl (dk_Lo_held d) (Nat.le_of_ble_eq_true rfl) (Or.inl ⟨3, o_r0_3, rfl⟩) h ?_
        rintro _ μ6 ⟨v6, rfl, h⟩ hn6
        show G Γ m_Lo_greatestAlike (d + 1) (0, 0) Q 71 [.ref r0, .ref r1, .int x2, .long y3, jk, .int x5, .long y6, jk, .int x8, .int (w 1)] [.long v6, .long y6] μ6
        refine run_ok (pc' := 20) [(.goto 4, 0, 0, 0), (.ladd, 0, 0, 0), (.lstore 6, 0, 0, 0), (.iinc 8 1, 0, 0, 0), (.goto (-61), 0, 0, 0)] _ _ _ _ (by decide +kernel) ?_
        show G Γ m_Lo_greatestAlike (d + 1) (0, 0) Q 20 [.ref r0, .ref r1, .int x2, .long y3, jk, .int x5, .long (y6 + v6), jk, .int (x8 + w 1), .int (w 1)] [] μ6
        exact g_wk (ls' := [.ref r0, .ref r1, .int x2, .long y3, jk, .int x5, .long (y6 + v6), jk, .int (x8 + w 1)]) ⟨Or.inr rfl, Or.inr rfl, Or.inr rfl, Or.inr rfl, Or.inl rfl, Or.inr rfl, Or.inr rfl, Or.inl rfl, Or.inr rfl, trivial⟩ h
