/-! FrostBoxModel rests(I)I -/
set_option maxRecDepth 100000 in
theorem B_MO_rests_0 {Γ : XG} {d : Nat} {Q : Option Value → XM → Prop} {r0 : Nat} {x1 : Int32} {μ : XM} (o_r0_11 : ob μ r0 11) (h : ∀ μ1, μ1 = sI μ r0 0 (w 0) → ((xI μ1 r0 25 = w 0 → Q (some (.int (w (-1)))) μ1) ∧ (¬ xI μ1 r0 25 = w 0 → ((x1 < w (-1) → Q (some (.int (w (-1)))) μ1) ∧ (¬ x1 < w (-1) → G Γ m_MO_rests (d + 1) (0, 0) Q 23 [.ref r0, .int x1, .int (w 0), .int (w 0)] [] μ1))))) : G Γ m_MO_rests (d + 1) (0, 0) Q 0 [.ref r0, .int x1] [] μ := by
  refine run_ok (pc' := 5) [(.aload_n 0, 0, 0, 0), (.iconst 0, 0, 0, 0), (.putfield 109, 11, 0, 0)] _ _ _ _ (by decide +kernel) ?_
  show _ ∧ (_)
  refine ⟨o_r0_11, ?_⟩
  show G Γ m_MO_rests (d + 1) (0, 0) Q 5 [.ref r0, .int x1] [] (sI μ r0 0 (w 0))
  obtain ⟨μ1, em1⟩ : ∃ m : XM, m = sI μ r0 0 (w 0) := ⟨_, rfl⟩
  replace h := h μ1 em1
  have hm1 : xN μ ≤ xN μ1 := by rw [em1]; exact Nat.le_refl _
  rw [← em1]
  refine run_ok (pc' := 9) [(.aload_n 0, 0, 0, 0), (.getfield 307, 11, 25, 0)] _ _ _ _ (by decide +kernel) ?_
  show _ ∧ (_)
  refine ⟨((o_r0_11).mono hm1), ?_⟩
  show G Γ m_MO_rests (d + 1) (0, 0) Q 9 [.ref r0, .int x1] [.int (xI μ1 r0 25)] μ1
  refine g_ifz_eq (pc' := 17) (off := 8) (by decide) (by decide +kernel) (fun hc => ?_) (fun hc => ?_)
  · replace h := h.1 hc
    show G Γ m_MO_rests (d + 1) (0, 0) Q 17 [.ref r0, .int x1] [] μ1
    refine run_ok (pc' := 18) [(.iconst (-1), 0, 0, 0)] _ _ _ _ (by decide +kernel) ?_
    show G Γ m_MO_rests (d + 1) (0, 0) Q 18 [.ref r0, .int x1] [.int (w (-1))] μ1
    exact g_reti (by decide +kernel) rfl h
  · replace h := h.2 hc
    show G Γ m_MO_rests (d + 1) (0, 0) Q 12 [.ref r0, .int x1] [] μ1
    refine run_ok (pc' := 14) [(.iload_n 1, 0, 0, 0), (.iconst (-1), 0, 0, 0)] _ _ _ _ (by decide +kernel) ?_
    show G Γ m_MO_rests (d + 1) (0, 0) Q 14 [.ref r0, .int x1] [.int (w (-1)), .int x1] μ1
    refine g_icmp_ge (pc' := 19) (off := 5) (by decide) (by decide +kernel) (fun hc => ?_) (fun hc => ?_)
    · replace h := h.2 hc
      show G Γ m_MO_rests (d + 1) (0, 0) Q 19 [.ref r0, .int x1] [] μ1
      refine run_ok (pc' := 23) [(.iconst 0, 0, 0, 0), (.istore_n 2, 0, 0, 0), (.iconst 0, 0, 0, 0), (.istore_n 3, 0, 0, 0)] _ _ _ _ (by decide +kernel) ?_
      show G Γ m_MO_rests (d + 1) (0, 0) Q 23 [.ref r0, .int x1, .int (w 0), .int (w 0)] [] μ1
      exact h
    · replace h := h.1 hc
      show G Γ m_MO_rests (d + 1) (0, 0) Q 17 [.ref r0, .int x1] [] μ1
      refine run_ok (pc' := 18) [(.iconst (-1), 0, 0, 0)] _ _ _ _ (by decide +kernel) ?_
      show G Γ m_MO_rests (d + 1) (0, 0) Q 18 [.ref r0, .int x1] [.int (w (-1))] μ1
      exact g_reti (by decide +kernel) rfl h
set_option maxRecDepth 100000 in
theorem B_MO_rests_23 {Γ : XG} {d : Nat} {Q : Option Value → XM → Prop} {r0 : Nat} {x1 x2 x3 : Int32} {μ : XM} (o_r0_11 : ob μ r0 11) (h : ((x3 < w 4 → ¬ (w 2) = 0 ∧ ¬ (w 2) = 0 ∧ Call Γ m_MO_labelsOf d [.ref r0, .int ((w 1) - (x3 / (w 2))), .int (x3 - x3 / (w 2) * (w 2))] μ (KI (fun v3 μ3 => Call Γ m_MO_labelsOf d [.ref r0, .int (x3 / (w 2)), .int (x3 - x3 / (w 2) * (w 2))] μ3 (KI (fun v4 μ4 => ((v4 < v3 → G Γ m_MO_rests (d + 1) (0, 0) Q 23 [.ref r0, .int x1, .int x2, .int (x3 + w 1)] [] μ4) ∧ (¬ v4 < v3 → Call Γ m_MO_labelsOf d [.ref r0, .int ((w 1) - (x3 - x3 / (w 2) * (w 2))), .int (x3 / (w 2))] μ4 (KI (fun v5 μ5 => Call Γ m_MO_labelsOf d [.ref r0, .int (x3 - x3 / (w 2) * (w 2)), .int (x3 / (w 2))] μ5 (KI (fun v6 μ6 => ((v6 < v5 → G Γ m_MO_rests (d + 1) (0, 0) Q 23 [.ref r0, .int x1, .int x2, .int (x3 + w 1)] [] μ6) ∧ (¬ v6 < v5 → ((x2 = x1 → Q (some (.int (((w 10) * (x3 / (w 2))) + (x3 - x3 / (w 2) * (w 2))))) μ6) ∧ (¬ x2 = x1 → G Γ m_MO_rests (d + 1) (0, 0) Q 23 [.ref r0, .int x1, .int (x2 + w 1), .int (x3 + w 1)] [] μ6))))))))))))))) ∧ (¬ x3 < w 4 → ((x1 = w (-1) → Q (some (.int x2)) μ) ∧ (¬ x1 = w (-1) → Q (some (.int (w (-1)))) μ))))) : G Γ m_MO_rests (d + 1) (0, 0) Q 23 [.ref r0, .int x1, .int x2, .int x3] [] μ := by
  refine run_ok (pc' := 25) [(.iload_n 3, 0, 0, 0), (.iconst 4, 0, 0, 0)] _ _ _ _ (by decide +kernel) ?_
  show G Γ m_MO_rests (d + 1) (0, 0) Q 25 [.ref r0, .int x1, .int x2, .int x3] [.int (w 4), .int x3] μ
  refine g_icmp_ge (pc' := 106) (off := 81) (by decide) (by decide +kernel) (fun hc => ?_) (fun hc => ?_)
  · replace h := h.2 hc
    show G Γ m_MO_rests (d + 1) (0, 0) Q 106 [.ref r0, .int x1, .int x2, .int x3] [] μ
    refine run_ok (pc' := 108) [(.iload_n 1, 0, 0, 0), (.iconst (-1), 0, 0, 0)] _ _ _ _ (by decide +kernel) ?_
    show G Γ m_MO_rests (d + 1) (0, 0) Q 108 [.ref r0, .int x1, .int x2, .int x3] [.int (w (-1)), .int x1] μ
    refine g_icmp_ne (pc' := 115) (off := 7) (by decide) (by decide +kernel) (fun hc => ?_) (fun hc => ?_)
    · replace h := h.2 hc
      show G Γ m_MO_rests (d + 1) (0, 0) Q 115 [.ref r0, .int x1, .int x2, .int x3] [] μ
      refine run_ok (pc' := 116) [(.iconst (-1), 0, 0, 0)] _ _ _ _ (by decide +kernel) ?_
      show G Γ m_MO_rests (d + 1) (0, 0) Q 116 [.ref r0, .int x1, .int x2, .int x3] [.int (w (-1))] μ
      exact g_reti (by decide +kernel) rfl h
    · replace h := h.1 hc
      show G Γ m_MO_rests (d + 1) (0, 0) Q 111 [.ref r0, .int x1, .int x2, .int x3] [] μ
      refine run_ok (pc' := 116) [(.iload_n 2, 0, 0, 0), (.goto 4, 0, 0, 0)] _ _ _ _ (by decide +kernel) ?_
      show G Γ m_MO_rests (d + 1) (0, 0) Q 116 [.ref r0, .int x1, .int x2, .int x3] [.int x2] μ
      exact g_reti (by decide +kernel) rfl h
  · replace h := h.1 hc
    show G Γ m_MO_rests (d + 1) (0, 0) Q 28 [.ref r0, .int x1, .int x2, .int x3] [] μ
    obtain ⟨nz1, h⟩ := h
    obtain ⟨nz2, h⟩ := h
    refine run_ok (pc' := 45) [(.iload_n 3, 0, 0, 0), (.iconst 2, 0, 0, 0), (.idiv, 0, 0, 0), (.istore 4, 0, 0, 0), (.iload_n 3, 0, 0, 0), (.iconst 2, 0, 0, 0), (.irem, 0, 0, 0), (.istore 5, 0, 0, 0), (.aload_n 0, 0, 0, 0), (.iconst 1, 0, 0, 0), (.iload 4, 0, 0, 0), (.isub, 0, 0, 0), (.iload 5, 0, 0, 0)] _ _ _ _ (by decide +kernel) ?_
    show _ ∧ (_ ∧ (_))
    refine ⟨nz1, nz2, ?_⟩
    show G Γ m_MO_rests (d + 1) (0, 0) Q 45 [.ref r0, .int x1, .int x2, .int x3, .int (x3 / (w 2)), .int (x3 - x3 / (w 2) * (w 2))] [.int (x3 - x3 / (w 2) * (w 2)), .int ((w 1) - (x3 / (w 2))), .ref r0] μ
    refine g_invV (M' := m_MO_labelsOf) (b1 := 0) (b2 := 0) (As := [.int ((w 1) - (x3 / (w 2))), .int (x3 - x3 / (w 2) * (w 2))]) (a := r0) (st := []) lk_11_517 (by decide +kernel) rfl (dk_MO_labelsOf d) (Nat.le_of_ble_eq_true rfl) (Or.inl ⟨11, o_r0_11, rfl⟩) h ?_
    rintro _ μ3 ⟨v3, rfl, h⟩ hn3
    show G Γ m_MO_rests (d + 1) (0, 0) Q 48 [.ref r0, .int x1, .int x2, .int x3, .int (x3 / (w 2)), .int (x3 - x3 / (w 2) * (w 2))] [.int v3] μ3
    refine run_ok (pc' := 53) [(.aload_n 0, 0, 0, 0), (.iload 4, 0, 0, 0), (.iload 5, 0, 0, 0)] _ _ _ _ (by decide +kernel) ?_
    show G Γ m_MO_rests (d + 1) (0, 0) Q 53 [.ref r0, .int x1, .int x2, .int x3, .int (x3 / (w 2)), .int (x3 - x3 / (w 2) * (w 2))] [.int (x3 - x3 / (w 2) * (w 2)), .int (x3 / (w 2)), .ref r0, .int v3] μ3
    refine g_invV (M' := m_MO_labelsOf) (b1 := 0) (b2 := 0) (As := [.int (x3 / (w 2)), .int (x3 - x3 / (w 2) * (w 2))]) (a := r0) (st := [.int v3]) lk_11_517 (by decide +kernel) rfl (dk_MO_labelsOf d) (Nat.le_of_ble_eq_true rfl) (Or.inl ⟨11, ((o_r0_11).mono hn3), rfl⟩) h ?_
    rintro _ μ4 ⟨v4, rfl, h⟩ hn4
    show G Γ m_MO_rests (d + 1) (0, 0) Q 56 [.ref r0, .int x1, .int x2, .int x3, .int (x3 / (w 2)), .int (x3 - x3 / (w 2) * (w 2))] [.int v4, .int v3] μ4
    refine g_icmp_gt (pc' := 100) (off := 44) (by decide) (by decide +kernel) (fun hc => ?_) (fun hc => ?_)
    · replace h := h.1 hc
      show G Γ m_MO_rests (d + 1) (0, 0) Q 100 [.ref r0, .int x1, .int x2, .int x3, .int (x3 / (w 2)), .int (x3 - x3 / (w 2) * (w 2))] [] μ4
      refine run_ok (pc' := 23) [(.iinc 3 1, 0, 0, 0), (.goto (-80), 0, 0, 0)] _ _ _ _ (by decide +kernel) ?_
      show G Γ m_MO_rests (d + 1) (0, 0) Q 23 [.ref r0, .int x1, .int x2, .int (x3 + w 1), .int (x3 / (w 2)), .int (x3 - x3 / (w 2) * (w 2))] [] μ4
      exact g_wk (ls' := [.ref r0, .int x1, .int x2, .int (x3 + w 1)]) ⟨Or.inr rfl, Or.inr rfl, Or.inr rfl, Or.inr rfl, trivial⟩ h
    · replace h := h.2 hc
      show G Γ m_MO_rests (d + 1) (0, 0) Q 59 [.ref r0, .int x1, .int x2, .int x3, .int (x3 / (w 2)), .int (x3 - x3 / (w 2) * (w 2))] [] μ4
      refine run_ok (pc' := 66) [(.aload_n 0, 0, 0, 0), (.iconst 1, 0, 0, 0), (.iload 5, 0, 0, 0), (.isub, 0, 0, 0), (.iload 4, 0, 0, 0)] _ _ _ _ (by decide +kernel) ?_
      show G Γ m_MO_rests (d + 1) (0, 0) Q 66 [.ref r0, .int x1, .int x2, .int x3, .int (x3 / (w 2)), .int (x3 - x3 / (w 2) * (w 2))] [.int (x3 / (w 2)), .int ((w 1) - (x3 - x3 / (w 2) * (w 2))), .ref r0] μ4
      refine g_invV (M' := m_MO_labelsOf) (b1 := 0) (b2 := 0) (As := [.int ((w 1) - (x3 - x3 / (w 2) * (w 2))), .int (x3 / (w 2))]) (a := r0) (st := []) lk_11_517 (by decide +kernel) rfl (dk_MO_labelsOf d) (Nat.le_of_ble_eq_true rfl) (Or.inl ⟨11, (((o_r0_11).mono hn3).mono hn4), rfl⟩) h ?_
      rintro _ μ5 ⟨v5, rfl, h⟩ hn5
      show G Γ m_MO_rests (d + 1) (0, 0) Q 69 [.ref r0, .int x1, .int x2, .int x3, .int (x3 / (w 2)), .int (x3 - x3 / (w 2) * (w 2))] [.int v5] μ5
      refine run_ok (pc' := 74) [(.aload_n 0, 0, 0, 0), (.iload 5, 0, 0, 0), (.iload 4, 0, 0, 0)] _ _ _ _ (by decide +kernel) ?_
      show G Γ m_MO_rests (d + 1) (0, 0) Q 74 [.ref r0, .int x1, .int x2, .int x3, .int (x3 / (w 2)), .int (x3 - x3 / (w 2) * (w 2))] [.int (x3 / (w 2)), .int (x3 - x3 / (w 2) * (w 2)), .ref r0, .int v5] μ5
      refine g_invV (M' := m_MO_labelsOf) (b1 := 0) (b2 := 0) (As := [.int (x3 - x3 / (w 2) * (w 2)), .int (x3 / (w 2))]) (a := r0) (st := [.int v5]) lk_11_517 (by decide +kernel) rfl (dk_MO_labelsOf d) (Nat.le_of_ble_eq_true rfl) (Or.inl ⟨11, ((((o_r0_11).mono hn3).mono hn4).mono hn5), rfl⟩) h ?_
      rintro _ μ6 ⟨v6, rfl, h⟩ hn6
      show G Γ m_MO_rests (d + 1) (0, 0) Q 77 [.ref r0, .int x1, .int x2, .int x3, .int (x3 / (w 2)), .int (x3 - x3 / (w 2) * (w 2))] [.int v6, .int v5] μ6
      refine g_icmp_le (pc' := 83) (off := 6) (by decide) (by decide +kernel) (fun hc => ?_) (fun hc => ?_)
      · replace h := h.2 hc
        show G Γ m_MO_rests (d + 1) (0, 0) Q 83 [.ref r0, .int x1, .int x2, .int x3, .int (x3 / (w 2)), .int (x3 - x3 / (w 2) * (w 2))] [] μ6
        refine run_ok (pc' := 85) [(.iload_n 2, 0, 0, 0), (.iload_n 1, 0, 0, 0)] _ _ _ _ (by decide +kernel) ?_
        show G Γ m_MO_rests (d + 1) (0, 0) Q 85 [.ref r0, .int x1, .int x2, .int x3, .int (x3 / (w 2)), .int (x3 - x3 / (w 2) * (w 2))] [.int x1, .int x2] μ6
        refine g_icmp_ne (pc' := 97) (off := 12) (by decide) (by decide +kernel) (fun hc => ?_) (fun hc => ?_)
        · replace h := h.2 hc
          show G Γ m_MO_rests (d + 1) (0, 0) Q 97 [.ref r0, .int x1, .int x2, .int x3, .int (x3 / (w 2)), .int (x3 - x3 / (w 2) * (w 2))] [] μ6
          refine run_ok (pc' := 23) [(.iinc 2 1, 0, 0, 0), (.iinc 3 1, 0, 0, 0), (.goto (-80), 0, 0, 0)] _ _ _ _ (by decide +kernel) ?_
          show G Γ m_MO_rests (d + 1) (0, 0) Q 23 [.ref r0, .int x1, .int (x2 + w 1), .int (x3 + w 1), .int (x3 / (w 2)), .int (x3 - x3 / (w 2) * (w 2))] [] μ6
          exact g_wk (ls' := [.ref r0, .int x1, .int (x2 + w 1), .int (x3 + w 1)]) ⟨Or.inr rfl, Or.inr rfl, Or.inr rfl, Or.inr rfl, trivial⟩ h
        · replace h := h.1 hc
          show G Γ m_MO_rests (d + 1) (0, 0) Q 88 [.ref r0, .int x1, .int x2, .int x3, .int (x3 / (w 2)), .int (x3 - x3 / (w 2) * (w 2))] [] μ6
          refine run_ok (pc' := 96) [(.bipush 10, 0, 0, 0), (.iload 4, 0, 0, 0), (.imul, 0, 0, 0), (.iload 5, 0, 0, 0), (.iadd, 0, 0, 0)] _ _ _ _ (by decide +kernel) ?_
          show G Γ m_MO_rests (d + 1) (0, 0) Q 96 [.ref r0, .int x1, .int x2, .int x3, .int (x3 / (w 2)), .int (x3 - x3 / (w 2) * (w 2))] [.int (((w 10) * (x3 / (w 2))) + (x3 - x3 / (w 2) * (w 2)))] μ6
          exact g_reti (by decide +kernel) rfl h
      · replace h := h.1 hc
        show G Γ m_MO_rests (d + 1) (0, 0) Q 80 [.ref r0, .int x1, .int x2, .int x3, .int (x3 / (w 2)), .int (x3 - x3 / (w 2) * (w 2))] [] μ6
        refine run_ok (pc' := 23) [(.goto 20, 0, 0, 0), (.iinc 3 1, 0, 0, 0), (.goto (-80), 0, 0, 0)] _ _ _ _ (by decide +kernel) ?_
        show G Γ m_MO_rests (d + 1) (0, 0) Q 23 [.ref r0, .int x1, .int x2, .int (x3 + w 1), .int (x3 / (w 2)), .int (x3 - x3 / (w 2) * (w 2))] [] μ6
        exact g_wk (ls' := [.ref r0, .int x1, .int x2, .int (x3 + w 1)]) ⟨Or.inr rfl, Or.inr rfl, Or.inr rfl, Or.inr rfl, trivial⟩ h
/-! FrostBoxModel most(I)I -/
set_option maxRecDepth 100000 in
theorem B_MO_most_0 {Γ : XG} {d : Nat} {Q : Option Value → XM → Prop} {r0 : Nat} {x1 : Int32} {μ : XM} (o_r0_11 : ob μ r0 11) (h : ∀ μ1, μ1 = sI μ r0 0 (w 0) → ((xI μ1 r0 25 = w 0 → Q (some (.int (w (-1)))) μ1) ∧ (¬ xI μ1 r0 25 = w 0 → Call Γ m_MO_isIn d [.long (x1.toInt64), .long (wl 0), .long (wl 1)] μ1 (KI (fun v2 μ2 => ((v2 = w 0 → Q (some (.int (w (-1)))) μ2) ∧ (¬ v2 = w 0 → ∃ a3, xR μ2 r0 30 = some a3 ∧ inb μ2 0 a3 (w 40) ∧ ((xI μ2 a3 (w 40).toNatClampNeg = w 0 → Q (some (.int (w (-1)))) μ2) ∧ (¬ xI μ2 a3 (w 40).toNatClampNeg = w 0 → G Γ m_MO_most (d + 1) (0, 0) Q 38 [.ref r0, .int x1, .int (w 0), .int (w 1)] [] μ2))))))))) : G Γ m_MO_most (d + 1) (0, 0) Q 0 [.ref r0, .int x1] [] μ := by
  refine run_ok (pc' := 5) [(.aload_n 0, 0, 0, 0), (.iconst 0, 0, 0, 0), (.putfield 109, 11, 0, 0)] _ _ _ _ (by decide +kernel) ?_
  show _ ∧ (_)
  refine ⟨o_r0_11, ?_⟩
  show G Γ m_MO_most (d + 1) (0, 0) Q 5 [.ref r0, .int x1] [] (sI μ r0 0 (w 0))
  obtain ⟨μ1, em1⟩ : ∃ m : XM, m = sI μ r0 0 (w 0) := ⟨_, rfl⟩
  replace h := h μ1 em1
  have hm1 : xN μ ≤ xN μ1 := by rw [em1]; exact Nat.le_refl _
  rw [← em1]
  refine run_ok (pc' := 9) [(.aload_n 0, 0, 0, 0), (.getfield 307, 11, 25, 0)] _ _ _ _ (by decide +kernel) ?_
  show _ ∧ (_)
  refine ⟨((o_r0_11).mono hm1), ?_⟩
  show G Γ m_MO_most (d + 1) (0, 0) Q 9 [.ref r0, .int x1] [.int (xI μ1 r0 25)] μ1
  refine g_ifz_eq (pc' := 32) (off := 23) (by decide) (by decide +kernel) (fun hc => ?_) (fun hc => ?_)
  · replace h := h.1 hc
    show G Γ m_MO_most (d + 1) (0, 0) Q 32 [.ref r0, .int x1] [] μ1
    refine run_ok (pc' := 33) [(.iconst (-1), 0, 0, 0)] _ _ _ _ (by decide +kernel) ?_
    show G Γ m_MO_most (d + 1) (0, 0) Q 33 [.ref r0, .int x1] [.int (w (-1))] μ1
    exact g_reti (by decide +kernel) rfl h
  · replace h := h.2 hc
    show G Γ m_MO_most (d + 1) (0, 0) Q 12 [.ref r0, .int x1] [] μ1
    refine run_ok (pc' := 16) [(.iload_n 1, 0, 0, 0), (.i2l, 0, 0, 0), (.lconst 0, 0, 0, 0), (.lconst 1, 0, 0, 1)] _ _ _ _ (by decide +kernel) ?_
    show G Γ m_MO_most (d + 1) (0, 0) Q 16 [.ref r0, .int x1] [.long (wl 1), .long (wl 0), .long (x1.toInt64)] μ1
    refine g_invS (M' := m_MO_isIn) (b1 := 0) (b2 := 0) (As := [.long (x1.toInt64), .long (wl 0), .long (wl 1)]) (st := []) lk_11_230 (by decide +kernel) rfl (dk_MO_isIn d) (Nat.le_of_ble_eq_true rfl) h ?_
    rintro _ μ2 ⟨v2, rfl, h⟩ hn2
    show G Γ m_MO_most (d + 1) (0, 0) Q 19 [.ref r0, .int x1] [.int v2] μ2
    refine g_ifz_eq (pc' := 32) (off := 13) (by decide) (by decide +kernel) (fun hc => ?_) (fun hc => ?_)
    · replace h := h.1 hc
      show G Γ m_MO_most (d + 1) (0, 0) Q 32 [.ref r0, .int x1] [] μ2
      refine run_ok (pc' := 33) [(.iconst (-1), 0, 0, 0)] _ _ _ _ (by decide +kernel) ?_
      show G Γ m_MO_most (d + 1) (0, 0) Q 33 [.ref r0, .int x1] [.int (w (-1))] μ2
      exact g_reti (by decide +kernel) rfl h
    · replace h := h.2 hc
      show G Γ m_MO_most (d + 1) (0, 0) Q 22 [.ref r0, .int x1] [] μ2
      obtain ⟨a3, ea3, h⟩ := h
      obtain ⟨ib4, h⟩ := h
      refine run_ok (pc' := 29) [(.aload_n 0, 0, 0, 0), (.getfield 58, 11, 30, 2), (.bipush 40, 0, 0, 0), (.iaload, 0, 0, 0)] _ _ _ _ (by decide +kernel) ?_
      show _ ∧ (∃ _, _ ∧ (_ ∧ (_)))
      refine ⟨(((o_r0_11).mono hm1).mono hn2), a3, ea3, ib4, ?_⟩
      show G Γ m_MO_most (d + 1) (0, 0) Q 29 [.ref r0, .int x1] [.int (xI μ2 a3 (w 40).toNatClampNeg)] μ2
      refine g_ifz_ne (pc' := 34) (off := 5) (by decide) (by decide +kernel) (fun hc => ?_) (fun hc => ?_)
      · replace h := h.2 hc
        show G Γ m_MO_most (d + 1) (0, 0) Q 34 [.ref r0, .int x1] [] μ2
        refine run_ok (pc' := 38) [(.iconst 0, 0, 0, 0), (.istore_n 2, 0, 0, 0), (.iconst 1, 0, 0, 0), (.istore_n 3, 0, 0, 0)] _ _ _ _ (by decide +kernel) ?_
        show G Γ m_MO_most (d + 1) (0, 0) Q 38 [.ref r0, .int x1, .int (w 0), .int (w 1)] [] μ2
        exact h
      · replace h := h.1 hc
        show G Γ m_MO_most (d + 1) (0, 0) Q 32 [.ref r0, .int x1] [] μ2
        refine run_ok (pc' := 33) [(.iconst (-1), 0, 0, 0)] _ _ _ _ (by decide +kernel) ?_
        show G Γ m_MO_most (d + 1) (0, 0) Q 33 [.ref r0, .int x1] [.int (w (-1))] μ2
        exact g_reti (by decide +kernel) rfl h
set_option maxRecDepth 100000 in
theorem B_MO_most_38 {Γ : XG} {d : Nat} {Q : Option Value → XM → Prop} {r0 r0_30 : Nat} {x1 x2 x3 : Int32} {μ : XM} (o_r0_11 : ob μ r0 11) (e_r0_30 : xR μ r0 30 = some r0_30) (h : inb μ 0 r0_30 (w 40) ∧ ((x3 < xI μ r0_30 (w 40).toNatClampNeg → ((x1 = w 0 → inb μ 0 r0_30 (((w 5) * x3) + (w 2)) ∧ inb μ 0 r0_30 (((w 5) * x2) + (w 2)) ∧ ((xI μ r0_30 (((w 5) * x2) + (w 2)).toNatClampNeg < xI μ r0_30 (((w 5) * x3) + (w 2)).toNatClampNeg → ((w 1 = w 0 → G Γ m_MO_most (d + 1) (0, 0) Q 38 [.ref r0, .int x1, .int x2, .int (x3 + w 1)] [] μ) ∧ (¬ w 1 = w 0 → G Γ m_MO_most (d + 1) (0, 0) Q 38 [.ref r0, .int x1, .int x3, .int (x3 + w 1)] [] μ))) ∧ (¬ xI μ r0_30 (((w 5) * x2) + (w 2)).toNatClampNeg < xI μ r0_30 (((w 5) * x3) + (w 2)).toNatClampNeg → ((w 0 = w 0 → G Γ m_MO_most (d + 1) (0, 0) Q 38 [.ref r0, .int x1, .int x2, .int (x3 + w 1)] [] μ) ∧ (¬ w 0 = w 0 → G Γ m_MO_most (d + 1) (0, 0) Q 38 [.ref r0, .int x1, .int x3, .int (x3 + w 1)] [] μ))))) ∧ (¬ x1 = w 0 → Call Γ m_MO_valueOf d [.ref r0, .ref r0_30, .int x3] μ (KI (fun v2 μ2 => xR μ2 r0 30 = some r0_30 ∧ Call Γ m_MO_valueOf d [.ref r0, .ref r0_30, .int x2] μ2 (KI (fun v4 μ4 => ((v4 < v2 → ((w 1 = w 0 → G Γ m_MO_most (d + 1) (0, 0) Q 38 [.ref r0, .int x1, .int x2, .int (x3 + w 1)] [] μ4) ∧ (¬ w 1 = w 0 → G Γ m_MO_most (d + 1) (0, 0) Q 38 [.ref r0, .int x1, .int x3, .int (x3 + w 1)] [] μ4))) ∧ (¬ v4 < v2 → ((w 0 = w 0 → G Γ m_MO_most (d + 1) (0, 0) Q 38 [.ref r0, .int x1, .int x2, .int (x3 + w 1)] [] μ4) ∧ (¬ w 0 = w 0 → G Γ m_MO_most (d + 1) (0, 0) Q 38 [.ref r0, .int x1, .int x3, .int (x3 + w 1)] [] μ4))))))))))) ∧ (¬ x3 < xI μ r0_30 (w 40).toNatClampNeg → Q (some (.int x2)) μ))) : G Γ m_MO_most (d + 1) (0, 0) Q 38 [.ref r0, .int x1, .int x2, .int x3] [] μ := by
  obtain ⟨ib1, h⟩ := h
  refine run_ok (pc' := 46) [(.iload_n 3, 0, 0, 0), (.aload_n 0, 0, 0, 0), (.getfield 58, 11, 30, 2), (.bipush 40, 0, 0, 0), (.iaload, 0, 0, 0)] _ _ _ _ (by decide +kernel) ?_
  show _ ∧ (∃ _, _ ∧ (_ ∧ (_)))
  refine ⟨o_r0_11, r0_30, e_r0_30, ib1, ?_⟩
  show G Γ m_MO_most (d + 1) (0, 0) Q 46 [.ref r0, .int x1, .int x2, .int x3] [.int (xI μ r0_30 (w 40).toNatClampNeg), .int x3] μ
  refine g_icmp_ge (pc' := 125) (off := 79) (by decide) (by decide +kernel) (fun hc => ?_) (fun hc => ?_)
  · replace h := h.2 hc
    show G Γ m_MO_most (d + 1) (0, 0) Q 125 [.ref r0, .int x1, .int x2, .int x3] [] μ
    refine run_ok (pc' := 126) [(.iload_n 2, 0, 0, 0)] _ _ _ _ (by decide +kernel) ?_
    show G Γ m_MO_most (d + 1) (0, 0) Q 126 [.ref r0, .int x1, .int x2, .int x3] [.int x2] μ
    exact g_reti (by decide +kernel) rfl h
  · replace h := h.1 hc
    show G Γ m_MO_most (d + 1) (0, 0) Q 49 [.ref r0, .int x1, .int x2, .int x3] [] μ
    refine run_ok (pc' := 50) [(.iload_n 1, 0, 0, 0)] _ _ _ _ (by decide +kernel) ?_
    show G Γ m_MO_most (d + 1) (0, 0) Q 50 [.ref r0, .int x1, .int x2, .int x3] [.int x1] μ
    refine g_ifz_ne (pc' := 84) (off := 34) (by decide) (by decide +kernel) (fun hc => ?_) (fun hc => ?_)
    · replace h := h.2 hc
      show G Γ m_MO_most (d + 1) (0, 0) Q 84 [.ref r0, .int x1, .int x2, .int x3] [] μ
      refine run_ok (pc' := 90) [(.aload_n 0, 0, 0, 0), (.aload_n 0, 0, 0, 0), (.getfield 58, 11, 30, 2), (.iload_n 3, 0, 0, 0)] _ _ _ _ (by decide +kernel) ?_
      show _ ∧ (∃ _, _ ∧ (_))
      refine ⟨o_r0_11, r0_30, e_r0_30, ?_⟩
      show G Γ m_MO_most (d + 1) (0, 0) Q 90 [.ref r0, .int x1, .int x2, .int x3] [.int x3, .ref r0_30, .ref r0] μ
      refine g_invV (M' := m_MO_valueOf) (b1 := 0) (b2 := 0) (As := [.ref r0_30, .int x3]) (a := r0) (st := []) lk_11_350 (by decide +kernel) rfl (dk_MO_valueOf d) (Nat.le_of_ble_eq_true rfl) (Or.inl ⟨11, o_r0_11, rfl⟩) h ?_
      rintro _ μ2 ⟨v2, rfl, h⟩ hn2
      show G Γ m_MO_most (d + 1) (0, 0) Q 93 [.ref r0, .int x1, .int x2, .int x3] [.int v2] μ2
      obtain ⟨ea3, h⟩ := h
      refine run_ok (pc' := 99) [(.aload_n 0, 0, 0, 0), (.aload_n 0, 0, 0, 0), (.getfield 58, 11, 30, 2), (.iload_n 2, 0, 0, 0)] _ _ _ _ (by decide +kernel) ?_
      show _ ∧ (∃ _, _ ∧ (_))
      refine ⟨((o_r0_11).mono hn2), r0_30, ea3, ?_⟩
      show G Γ m_MO_most (d + 1) (0, 0) Q 99 [.ref r0, .int x1, .int x2, .int x3] [.int x2, .ref r0_30, .ref r0, .int v2] μ2
      refine g_invV (M' := m_MO_valueOf) (b1 := 0) (b2 := 0) (As := [.ref r0_30, .int x2]) (a := r0) (st := [.int v2]) lk_11_350 (by decide +kernel) rfl (dk_MO_valueOf d) (Nat.le_of_ble_eq_true rfl) (Or.inl ⟨11, ((o_r0_11).mono hn2), rfl⟩) h ?_
      rintro _ μ4 ⟨v4, rfl, h⟩ hn4
      show G Γ m_MO_most (d + 1) (0, 0) Q 102 [.ref r0, .int x1, .int x2, .int x3] [.int v4, .int v2] μ4
      refine g_icmp_le (pc' := 109) (off := 7) (by decide) (by decide +kernel) (fun hc => ?_) (fun hc => ?_)
      · replace h := h.2 hc
        show G Γ m_MO_most (d + 1) (0, 0) Q 109 [.ref r0, .int x1, .int x2, .int x3] [] μ4
        refine run_ok (pc' := 114) [(.iconst 0, 0, 0, 0), (.istore 4, 0, 0, 0), (.iload 4, 0, 0, 0)] _ _ _ _ (by decide +kernel) ?_
        show G Γ m_MO_most (d + 1) (0, 0) Q 114 [.ref r0, .int x1, .int x2, .int x3, .int (w 0)] [.int (w 0)] μ4
        refine g_ifz_eq (pc' := 119) (off := 5) (by decide) (by decide +kernel) (fun hc => ?_) (fun hc => ?_)
        · replace h := h.1 hc
          show G Γ m_MO_most (d + 1) (0, 0) Q 119 [.ref r0, .int x1, .int x2, .int x3, .int (w 0)] [] μ4
          refine run_ok (pc' := 38) [(.iinc 3 1, 0, 0, 0), (.goto (-84), 0, 0, 0)] _ _ _ _ (by decide +kernel) ?_
          show G Γ m_MO_most (d + 1) (0, 0) Q 38 [.ref r0, .int x1, .int x2, .int (x3 + w 1), .int (w 0)] [] μ4
          exact g_wk (ls' := [.ref r0, .int x1, .int x2, .int (x3 + w 1)]) ⟨Or.inr rfl, Or.inr rfl, Or.inr rfl, Or.inr rfl, trivial⟩ h
        · replace h := h.2 hc
          show G Γ m_MO_most (d + 1) (0, 0) Q 117 [.ref r0, .int x1, .int x2, .int x3, .int (w 0)] [] μ4
          refine run_ok (pc' := 38) [(.iload_n 3, 0, 0, 0), (.istore_n 2, 0, 0, 0), (.iinc 3 1, 0, 0, 0), (.goto (-84), 0, 0, 0)] _ _ _ _ (by decide +kernel) ?_
          show G Γ m_MO_most (d + 1) (0, 0) Q 38 [.ref r0, .int x1, .int x3, .int (x3 + w 1), .int (w 0)] [] μ4
          exact g_wk (ls' := [.ref r0, .int x1, .int x3, .int (x3 + w 1)]) ⟨Or.inr rfl, Or.inr rfl, Or.inr rfl, Or.inr rfl, trivial⟩ h
      · replace h := h.1 hc
        show G Γ m_MO_most (d + 1) (0, 0) Q 105 [.ref r0, .int x1, .int x2, .int x3] [] μ4
        refine run_ok (pc' := 114) [(.iconst 1, 0, 0, 0), (.goto 4, 0, 0, 0), (.istore 4, 0, 0, 0), (.iload 4, 0, 0, 0)] _ _ _ _ (by decide +kernel) ?_
        show G Γ m_MO_most (d + 1) (0, 0) Q 114 [.ref r0, .int x1, .int x2, .int x3, .int (w 1)] [.int (w 1)] μ4
        refine g_ifz_eq (pc' := 119) (off := 5) (by decide) (by decide +kernel) (fun hc => ?_) (fun hc => ?_)
        · replace h := h.1 hc
          show G Γ m_MO_most (d + 1) (0, 0) Q 119 [.ref r0, .int x1, .int x2, .int x3, .int (w 1)] [] μ4
          refine run_ok (pc' := 38) [(.iinc 3 1, 0, 0, 0), (.goto (-84), 0, 0, 0)] _ _ _ _ (by decide +kernel) ?_
          show G Γ m_MO_most (d + 1) (0, 0) Q 38 [.ref r0, .int x1, .int x2, .int (x3 + w 1), .int (w 1)] [] μ4
          exact g_wk (ls' := [.ref r0, .int x1, .int x2, .int (x3 + w 1)]) ⟨Or.inr rfl, Or.inr rfl, Or.inr rfl, Or.inr rfl, trivial⟩ h
        · replace h := h.2 hc
          show G Γ m_MO_most (d + 1) (0, 0) Q 117 [.ref r0, .int x1, .int x2, .int x3, .int (w 1)] [] μ4
          refine run_ok (pc' := 38) [(.iload_n 3, 0, 0, 0), (.istore_n 2, 0, 0, 0), (.iinc 3 1, 0, 0, 0), (.goto (-84), 0, 0, 0)] _ _ _ _ (by decide +kernel) ?_
          show G Γ m_MO_most (d + 1) (0, 0) Q 38 [.ref r0, .int x1, .int x3, .int (x3 + w 1), .int (w 1)] [] μ4
          exact g_wk (ls' := [.ref r0, .int x1, .int x3, .int (x3 + w 1)]) ⟨Or.inr rfl, Or.inr rfl, Or.inr rfl, Or.inr rfl, trivial⟩ h
    · replace h := h.1 hc
      show G Γ m_MO_most (d + 1) (0, 0) Q 53 [.ref r0, .int x1, .int x2, .int x3] [] μ
      obtain ⟨ib5, h⟩ := h
      obtain ⟨ib6, h⟩ := h
      refine run_ok (pc' := 73) [(.aload_n 0, 0, 0, 0), (.getfield 58, 11, 30, 2), (.iconst 5, 0, 0, 0), (.iload_n 3, 0, 0, 0), (.imul, 0, 0, 0), (.iconst 2, 0, 0, 0), (.iadd, 0, 0, 0), (.iaload, 0, 0, 0), (.aload_n 0, 0, 0, 0), (.getfield 58, 11, 30, 2), (.iconst 5, 0, 0, 0), (.iload_n 2, 0, 0, 0), (.imul, 0, 0, 0), (.iconst 2, 0, 0, 0), (.iadd, 0, 0, 0), (.iaload, 0, 0, 0)] _ _ _ _ (by decide +kernel) ?_
      show _ ∧ (∃ _, _ ∧ (_ ∧ (_ ∧ (∃ _, _ ∧ (_ ∧ (_))))))
      refine ⟨o_r0_11, r0_30, e_r0_30, ib5, o_r0_11, r0_30, e_r0_30, ib6, ?_⟩
      show G Γ m_MO_most (d + 1) (0, 0) Q 73 [.ref r0, .int x1, .int x2, .int x3] [.int (xI μ r0_30 (((w 5) * x2) + (w 2)).toNatClampNeg), .int (xI μ r0_30 (((w 5) * x3) + (w 2)).toNatClampNeg)] μ
      refine g_icmp_le (pc' := 80) (off := 7) (by decide) (by decide +kernel) (fun hc => ?_) (fun hc => ?_)
      · replace h := h.2 hc
        show G Γ m_MO_most (d + 1) (0, 0) Q 80 [.ref r0, .int x1, .int x2, .int x3] [] μ
        refine run_ok (pc' := 114) [(.iconst 0, 0, 0, 0), (.goto 29, 0, 0, 0), (.istore 4, 0, 0, 0), (.iload 4, 0, 0, 0)] _ _ _ _ (by decide +kernel) ?_
        show G Γ m_MO_most (d + 1) (0, 0) Q 114 [.ref r0, .int x1, .int x2, .int x3, .int (w 0)] [.int (w 0)] μ
        refine g_ifz_eq (pc' := 119) (off := 5) (by decide) (by decide +kernel) (fun hc => ?_) (fun hc => ?_)
        · replace h := h.1 hc
          show G Γ m_MO_most (d + 1) (0, 0) Q 119 [.ref r0, .int x1, .int x2, .int x3, .int (w 0)] [] μ
          refine run_ok (pc' := 38) [(.iinc 3 1, 0, 0, 0), (.goto (-84), 0, 0, 0)] _ _ _ _ (by decide +kernel) ?_
          show G Γ m_MO_most (d + 1) (0, 0) Q 38 [.ref r0, .int x1, .int x2, .int (x3 + w 1), .int (w 0)] [] μ
          exact g_wk (ls' := [.ref r0, .int x1, .int x2, .int (x3 + w 1)]) ⟨Or.inr rfl, Or.inr rfl, Or.inr rfl, Or.inr rfl, trivial⟩ h
        · replace h := h.2 hc
          show G Γ m_MO_most (d + 1) (0, 0) Q 117 [.ref r0, .int x1, .int x2, .int x3, .int (w 0)] [] μ
          refine run_ok (pc' := 38) [(.iload_n 3, 0, 0, 0), (.istore_n 2, 0, 0, 0), (.iinc 3 1, 0, 0, 0), (.goto (-84), 0, 0, 0)] _ _ _ _ (by decide +kernel) ?_
          show G Γ m_MO_most (d + 1) (0, 0) Q 38 [.ref r0, .int x1, .int x3, .int (x3 + w 1), .int (w 0)] [] μ
          exact g_wk (ls' := [.ref r0, .int x1, .int x3, .int (x3 + w 1)]) ⟨Or.inr rfl, Or.inr rfl, Or.inr rfl, Or.inr rfl, trivial⟩ h
      · replace h := h.1 hc
        show G Γ m_MO_most (d + 1) (0, 0) Q 76 [.ref r0, .int x1, .int x2, .int x3] [] μ
        refine run_ok (pc' := 114) [(.iconst 1, 0, 0, 0), (.goto 33, 0, 0, 0), (.istore 4, 0, 0, 0), (.iload 4, 0, 0, 0)] _ _ _ _ (by decide +kernel) ?_
        show G Γ m_MO_most (d + 1) (0, 0) Q 114 [.ref r0, .int x1, .int x2, .int x3, .int (w 1)] [.int (w 1)] μ
        refine g_ifz_eq (pc' := 119) (off := 5) (by decide) (by decide +kernel) (fun hc => ?_) (fun hc => ?_)
        · replace h := h.1 hc
          show G Γ m_MO_most (d + 1) (0, 0) Q 119 [.ref r0, .int x1, .int x2, .int x3, .int (w 1)] [] μ
          refine run_ok (pc' := 38) [(.iinc 3 1, 0, 0, 0), (.goto (-84), 0, 0, 0)] _ _ _ _ (by decide +kernel) ?_
          show G Γ m_MO_most (d + 1) (0, 0) Q 38 [.ref r0, .int x1, .int x2, .int (x3 + w 1), .int (w 1)] [] μ
          exact g_wk (ls' := [.ref r0, .int x1, .int x2, .int (x3 + w 1)]) ⟨Or.inr rfl, Or.inr rfl, Or.inr rfl, Or.inr rfl, trivial⟩ h
        · replace h := h.2 hc
          show G Γ m_MO_most (d + 1) (0, 0) Q 117 [.ref r0, .int x1, .int x2, .int x3, .int (w 1)] [] μ
          refine run_ok (pc' := 38) [(.iload_n 3, 0, 0, 0), (.istore_n 2, 0, 0, 0), (.iinc 3 1, 0, 0, 0), (.goto (-84), 0, 0, 0)] _ _ _ _ (by decide +kernel) ?_
          show G Γ m_MO_most (d + 1) (0, 0) Q 38 [.ref r0, .int x1, .int x3, .int (x3 + w 1), .int (w 1)] [] μ
          exact g_wk (ls' := [.ref r0, .int x1, .int x3, .int (x3 + w 1)]) ⟨Or.inr rfl, Or.inr rfl, Or.inr rfl, Or.inr rfl, trivial⟩ h
/-! FrostBoxModel spoilt()I -/
set_option maxRecDepth 100000 in
theorem B_MO_spoilt_0 {Γ : XG} {d : Nat} {Q : Option Value → XM → Prop} {r0 : Nat} {μ : XM} (o_r0_11 : ob μ r0 11) (h : ∀ μ1, μ1 = sI μ r0 0 (w 0) → ((xI μ1 r0 25 = w 0 → Q (some (.int (w (-1)))) μ1) ∧ (¬ xI μ1 r0 25 = w 0 → G Γ m_MO_spoilt (d + 1) (0, 0) Q 18 [.ref r0, .int (w 0), .int (w 0)] [] μ1))) : G Γ m_MO_spoilt (d + 1) (0, 0) Q 0 [.ref r0] [] μ := by
  refine run_ok (pc' := 5) [(.aload_n 0, 0, 0, 0), (.iconst 0, 0, 0, 0), (.putfield 109, 11, 0, 0)] _ _ _ _ (by decide +kernel) ?_
  show _ ∧ (_)
  refine ⟨o_r0_11, ?_⟩
  show G Γ m_MO_spoilt (d + 1) (0, 0) Q 5 [.ref r0] [] (sI μ r0 0 (w 0))
  obtain ⟨μ1, em1⟩ : ∃ m : XM, m = sI μ r0 0 (w 0) := ⟨_, rfl⟩
  replace h := h μ1 em1
  have hm1 : xN μ ≤ xN μ1 := by rw [em1]; exact Nat.le_refl _
  rw [← em1]
  refine run_ok (pc' := 9) [(.aload_n 0, 0, 0, 0), (.getfield 307, 11, 25, 0)] _ _ _ _ (by decide +kernel) ?_
  show _ ∧ (_)
  refine ⟨((o_r0_11).mono hm1), ?_⟩
  show G Γ m_MO_spoilt (d + 1) (0, 0) Q 9 [.ref r0] [.int (xI μ1 r0 25)] μ1
  refine g_ifz_ne (pc' := 14) (off := 5) (by decide) (by decide +kernel) (fun hc => ?_) (fun hc => ?_)
  · replace h := h.2 hc
    show G Γ m_MO_spoilt (d + 1) (0, 0) Q 14 [.ref r0] [] μ1
    refine run_ok (pc' := 18) [(.iconst 0, 0, 0, 0), (.istore_n 1, 0, 0, 0), (.iconst 0, 0, 0, 0), (.istore_n 2, 0, 0, 0)] _ _ _ _ (by decide +kernel) ?_
    show G Γ m_MO_spoilt (d + 1) (0, 0) Q 18 [.ref r0, .int (w 0), .int (w 0)] [] μ1
    exact h
  · replace h := h.1 hc
    show G Γ m_MO_spoilt (d + 1) (0, 0) Q 12 [.ref r0] [] μ1
    refine run_ok (pc' := 13) [(.iconst (-1), 0, 0, 0)] _ _ _ _ (by decide +kernel) ?_
    show G Γ m_MO_spoilt (d + 1) (0, 0) Q 13 [.ref r0] [.int (w (-1))] μ1
    exact g_reti (by decide +kernel) rfl h
set_option maxRecDepth 100000 in
theorem B_MO_spoilt_18 {Γ : XG} {d : Nat} {Q : Option Value → XM → Prop} {r0 r0_30 : Nat} {x1 x2 : Int32} {μ : XM} (o_r0_11 : ob μ r0 11) (e_r0_30 : xR μ r0 30 = some r0_30) (h : inb μ 0 r0_30 (w 40) ∧ ((x2 < xI μ r0_30 (w 40).toNatClampNeg → Call Γ m_MO_valueOf d [.ref r0, .ref r0_30, .int x2] μ (KI (fun v2 μ2 => ((v2 = w 0 → G Γ m_MO_spoilt (d + 1) (0, 0) Q 18 [.ref r0, .int (x1 ||| ((w 1) <<< (x2 &&& 31))), .int (x2 + w 1)] [] μ2) ∧ (¬ v2 = w 0 → G Γ m_MO_spoilt (d + 1) (0, 0) Q 18 [.ref r0, .int (x1 ||| (w 0)), .int (x2 + w 1)] [] μ2))))) ∧ (¬ x2 < xI μ r0_30 (w 40).toNatClampNeg → Q (some (.int x1)) μ))) : G Γ m_MO_spoilt (d + 1) (0, 0) Q 18 [.ref r0, .int x1, .int x2] [] μ := by
  obtain ⟨ib1, h⟩ := h
  refine run_ok (pc' := 26) [(.iload_n 2, 0, 0, 0), (.aload_n 0, 0, 0, 0), (.getfield 58, 11, 30, 2), (.bipush 40, 0, 0, 0), (.iaload, 0, 0, 0)] _ _ _ _ (by decide +kernel) ?_
  show _ ∧ (∃ _, _ ∧ (_ ∧ (_)))
  refine ⟨o_r0_11, r0_30, e_r0_30, ib1, ?_⟩
  show G Γ m_MO_spoilt (d + 1) (0, 0) Q 26 [.ref r0, .int x1, .int x2] [.int (xI μ r0_30 (w 40).toNatClampNeg), .int x2] μ
  refine g_icmp_ge (pc' := 57) (off := 31) (by decide) (by decide +kernel) (fun hc => ?_) (fun hc => ?_)
  · replace h := h.2 hc
    show G Γ m_MO_spoilt (d + 1) (0, 0) Q 57 [.ref r0, .int x1, .int x2] [] μ
    refine run_ok (pc' := 58) [(.iload_n 1, 0, 0, 0)] _ _ _ _ (by decide +kernel) ?_
    show G Γ m_MO_spoilt (d + 1) (0, 0) Q 58 [.ref r0, .int x1, .int x2] [.int x1] μ
    exact g_reti (by decide +kernel) rfl h
  · replace h := h.1 hc
    show G Γ m_MO_spoilt (d + 1) (0, 0) Q 29 [.ref r0, .int x1, .int x2] [] μ
    refine run_ok (pc' := 36) [(.iload_n 1, 0, 0, 0), (.aload_n 0, 0, 0, 0), (.aload_n 0, 0, 0, 0), (.getfield 58, 11, 30, 2), (.iload_n 2, 0, 0, 0)] _ _ _ _ (by decide +kernel) ?_
    show _ ∧ (∃ _, _ ∧ (_))
    refine ⟨o_r0_11, r0_30, e_r0_30, ?_⟩
    show G Γ m_MO_spoilt (d + 1) (0, 0) Q 36 [.ref r0, .int x1, .int x2] [.int x2, .ref r0_30, .ref r0, .int x1] μ
    refine g_invV (M' := m_MO_valueOf) (b1 := 0) (b2 := 0) (As := [.ref r0_30, .int x2]) (a := r0) (st := [.int x1]) lk_11_350 (by decide +kernel) rfl (dk_MO_valueOf d) (Nat.le_of_ble_eq_true rfl) (Or.inl ⟨11, o_r0_11, rfl⟩) h ?_
    rintro _ μ2 ⟨v2, rfl, h⟩ hn2
    show G Γ m_MO_spoilt (d + 1) (0, 0) Q 39 [.ref r0, .int x1, .int x2] [.int v2, .int x1] μ2
    refine g_ifz_ne (pc' := 48) (off := 9) (by decide) (by decide +kernel) (fun hc => ?_) (fun hc => ?_)
    · replace h := h.2 hc
      show G Γ m_MO_spoilt (d + 1) (0, 0) Q 48 [.ref r0, .int x1, .int x2] [.int x1] μ2
      refine run_ok (pc' := 18) [(.iconst 0, 0, 0, 0), (.ior, 0, 0, 0), (.istore_n 1, 0, 0, 0), (.iinc 2 1, 0, 0, 0), (.goto (-36), 0, 0, 0)] _ _ _ _ (by decide +kernel) ?_
      show G Γ m_MO_spoilt (d + 1) (0, 0) Q 18 [.ref r0, .int (x1 ||| (w 0)), .int (x2 + w 1)] [] μ2
      exact h
    · replace h := h.1 hc
      show G Γ m_MO_spoilt (d + 1) (0, 0) Q 42 [.ref r0, .int x1, .int x2] [.int x1] μ2
      refine run_ok (pc' := 18) [(.iconst 1, 0, 0, 0), (.iload_n 2, 0, 0, 0), (.ishl, 0, 0, 0), (.goto 4, 0, 0, 0), (.ior, 0, 0, 0), (.istore_n 1, 0, 0, 0), (.iinc 2 1, 0, 0, 0), (.goto (-36), 0, 0, 0)] _ _ _ _ (by decide +kernel) ?_
      show G Γ m_MO_spoilt (d + 1) (0, 0) Q 18 [.ref r0, .int (x1 ||| ((w 1) <<< (x2 &&& 31))), .int (x2 + w 1)] [] μ2
      exact h
/-! FrostBoxModel buried(I)I -/
set_option maxRecDepth 100000 in
theorem B_MO_buried_0 {Γ : XG} {d : Nat} {Q : Option Value → XM → Prop} {r0 r0_30 : Nat} {x1 : Int32} {μ : XM} (o_r0_11 : ob μ r0 11) (e_r0_30 : xR μ r0 30 = some r0_30) (h : ∀ μ1, μ1 = sI μ r0 0 (w 0) → Call Γ m_MO_isBox d [.ref r0, .ref r0_30, .int x1] μ1 (KI (fun v2 μ2 => ((v2 = w 0 → Q (some (.int (w (-1)))) μ2) ∧ (¬ v2 = w 0 → G Γ m_MO_buried (d + 1) (0, 0) Q 23 [.ref r0, .int x1, .int (w 0), .int (w 0)] [] μ2))))) : G Γ m_MO_buried (d + 1) (0, 0) Q 0 [.ref r0, .int x1] [] μ := by
  refine run_ok (pc' := 5) [(.aload_n 0, 0, 0, 0), (.iconst 0, 0, 0, 0), (.putfield 109, 11, 0, 0)] _ _ _ _ (by decide +kernel) ?_
  show _ ∧ (_)
  refine ⟨o_r0_11, ?_⟩
  show G Γ m_MO_buried (d + 1) (0, 0) Q 5 [.ref r0, .int x1] [] (sI μ r0 0 (w 0))
  obtain ⟨μ1, em1⟩ : ∃ m : XM, m = sI μ r0 0 (w 0) := ⟨_, rfl⟩
  replace h := h μ1 em1
  have hm1 : xN μ ≤ xN μ1 := by rw [em1]; exact Nat.le_refl _
  rw [← em1]
  refine run_ok (pc' := 11) [(.aload_n 0, 0, 0, 0), (.aload_n 0, 0, 0, 0), (.getfield 58, 11, 30, 2), (.iload_n 1, 0, 0, 0)] _ _ _ _ (by decide +kernel) ?_
  show _ ∧ (∃ _, _ ∧ (_))
  refine ⟨((o_r0_11).mono hm1), r0_30, (by rw [em1]; exact e_r0_30), ?_⟩
  show G Γ m_MO_buried (d + 1) (0, 0) Q 11 [.ref r0, .int x1] [.int x1, .ref r0_30, .ref r0] μ1
  refine g_invV (M' := m_MO_isBox) (b1 := 0) (b2 := 0) (As := [.ref r0_30, .int x1]) (a := r0) (st := []) lk_11_361 (by decide +kernel) rfl (dk_MO_isBox d) (Nat.le_of_ble_eq_true rfl) (Or.inl ⟨11, ((o_r0_11).mono hm1), rfl⟩) h ?_
  rintro _ μ2 ⟨v2, rfl, h⟩ hn2
  show G Γ m_MO_buried (d + 1) (0, 0) Q 14 [.ref r0, .int x1] [.int v2] μ2
  refine g_ifz_ne (pc' := 19) (off := 5) (by decide) (by decide +kernel) (fun hc => ?_) (fun hc => ?_)
  · replace h := h.2 hc
    show G Γ m_MO_buried (d + 1) (0, 0) Q 19 [.ref r0, .int x1] [] μ2
    refine run_ok (pc' := 23) [(.iconst 0, 0, 0, 0), (.istore_n 2, 0, 0, 0), (.iconst 0, 0, 0, 0), (.istore_n 3, 0, 0, 0)] _ _ _ _ (by decide +kernel) ?_
    show G Γ m_MO_buried (d + 1) (0, 0) Q 23 [.ref r0, .int x1, .int (w 0), .int (w 0)] [] μ2
    exact h
  · replace h := h.1 hc
    show G Γ m_MO_buried (d + 1) (0, 0) Q 17 [.ref r0, .int x1] [] μ2
    refine run_ok (pc' := 18) [(.iconst (-1), 0, 0, 0)] _ _ _ _ (by decide +kernel) ?_
    show G Γ m_MO_buried (d + 1) (0, 0) Q 18 [.ref r0, .int x1] [.int (w (-1))] μ2
    exact g_reti (by decide +kernel) rfl h
set_option maxRecDepth 100000 in
theorem B_MO_buried_23 {Γ : XG} {d : Nat} {Q : Option Value → XM → Prop} {r0 r0_30 : Nat} {x1 x2 x3 : Int32} {μ : XM} (o_r0_11 : ob μ r0 11) (e_r0_30 : xR μ r0 30 = some r0_30) (h : ((x3 < x1 → inb μ 0 r0_30 (((w 5) * x3) + (w 1)) ∧ G Γ m_MO_buried (d + 1) (0, 0) Q 23 [.ref r0, .int x1, .int (x2 + (xI μ r0_30 (((w 5) * x3) + (w 1)).toNatClampNeg)), .int (x3 + w 1)] [] μ) ∧ (¬ x3 < x1 → Q (some (.int x2)) μ))) : G Γ m_MO_buried (d + 1) (0, 0) Q 23 [.ref r0, .int x1, .int x2, .int x3] [] μ := by
  refine run_ok (pc' := 25) [(.iload_n 3, 0, 0, 0), (.iload_n 1, 0, 0, 0)] _ _ _ _ (by decide +kernel) ?_
  show G Γ m_MO_buried (d + 1) (0, 0) Q 25 [.ref r0, .int x1, .int x2, .int x3] [.int x1, .int x3] μ
  refine g_icmp_ge (pc' := 47) (off := 22) (by decide) (by decide +kernel) (fun hc => ?_) (fun hc => ?_)
  · replace h := h.2 hc
    show G Γ m_MO_buried (d + 1) (0, 0) Q 47 [.ref r0, .int x1, .int x2, .int x3] [] μ
    refine run_ok (pc' := 48) [(.iload_n 2, 0, 0, 0)] _ _ _ _ (by decide +kernel) ?_
    show G Γ m_MO_buried (d + 1) (0, 0) Q 48 [.ref r0, .int x1, .int x2, .int x3] [.int x2] μ
    exact g_reti (by decide +kernel) rfl h
  · replace h := h.1 hc
    show G Γ m_MO_buried (d + 1) (0, 0) Q 28 [.ref r0, .int x1, .int x2, .int x3] [] μ
    obtain ⟨ib1, h⟩ := h
    refine run_ok (pc' := 23) [(.iload_n 2, 0, 0, 0), (.aload_n 0, 0, 0, 0), (.getfield 58, 11, 30, 2), (.iconst 5, 0, 0, 0), (.iload_n 3, 0, 0, 0), (.imul, 0, 0, 0), (.iconst 1, 0, 0, 0), (.iadd, 0, 0, 0), (.iaload, 0, 0, 0), (.iadd, 0, 0, 0), (.istore_n 2, 0, 0, 0), (.iinc 3 1, 0, 0, 0), (.goto (-21), 0, 0, 0)] _ _ _ _ (by decide +kernel) ?_
    show _ ∧ (∃ _, _ ∧ (_ ∧ (_)))
    refine ⟨o_r0_11, r0_30, e_r0_30, ib1, ?_⟩
    show G Γ m_MO_buried (d + 1) (0, 0) Q 23 [.ref r0, .int x1, .int (x2 + (xI μ r0_30 (((w 5) * x3) + (w 1)).toNatClampNeg)), .int (x3 + w 1)] [] μ
    exact h
/-! FrostBoxModel goes(I)I -/
set_option maxRecDepth 100000 in
theorem B_MO_goes_0 {Γ : XG} {d : Nat} {Q : Option Value → XM → Prop} {r0 : Nat} {x1 : Int32} {μ : XM} (o_r0_11 : ob μ r0 11) (h : ∀ μ1, μ1 = sI μ r0 0 (w 0) → Call Γ m_MO_isKind d [.ref r0, .int x1] μ1 (KI (fun v2 μ2 => ((v2 = w 0 → Q (some (.int (w (-1)))) μ2) ∧ (¬ v2 = w 0 → G Γ m_MO_goes (d + 1) (0, 0) Q 19 [.ref r0, .int x1, .int (w 0), .int (w 0)] [] μ2))))) : G Γ m_MO_goes (d + 1) (0, 0) Q 0 [.ref r0, .int x1] [] μ := by
  refine run_ok (pc' := 5) [(.aload_n 0, 0, 0, 0), (.iconst 0, 0, 0, 0), (.putfield 109, 11, 0, 0)] _ _ _ _ (by decide +kernel) ?_
  show _ ∧ (_)
  refine ⟨o_r0_11, ?_⟩
  show G Γ m_MO_goes (d + 1) (0, 0) Q 5 [.ref r0, .int x1] [] (sI μ r0 0 (w 0))
  obtain ⟨μ1, em1⟩ : ∃ m : XM, m = sI μ r0 0 (w 0) := ⟨_, rfl⟩
  replace h := h μ1 em1
  have hm1 : xN μ ≤ xN μ1 := by rw [em1]; exact Nat.le_refl _
  rw [← em1]
  refine run_ok (pc' := 7) [(.aload_n 0, 0, 0, 0), (.iload_n 1, 0, 0, 0)] _ _ _ _ (by decide +kernel) ?_
  show G Γ m_MO_goes (d + 1) (0, 0) Q 7 [.ref r0, .int x1] [.int x1, .ref r0] μ1
  refine g_invV (M' := m_MO_isKind) (b1 := 0) (b2 := 0) (As := [.int x1]) (a := r0) (st := []) lk_11_356 (by decide +kernel) rfl (dk_MO_isKind d) (Nat.le_of_ble_eq_true rfl) (Or.inl ⟨11, ((o_r0_11).mono hm1), rfl⟩) h ?_
  rintro _ μ2 ⟨v2, rfl, h⟩ hn2
  show G Γ m_MO_goes (d + 1) (0, 0) Q 10 [.ref r0, .int x1] [.int v2] μ2
  refine g_ifz_ne (pc' := 15) (off := 5) (by decide) (by decide +kernel) (fun hc => ?_) (fun hc => ?_)
  · replace h := h.2 hc
    show G Γ m_MO_goes (d + 1) (0, 0) Q 15 [.ref r0, .int x1] [] μ2
    refine run_ok (pc' := 19) [(.iconst 0, 0, 0, 0), (.istore_n 2, 0, 0, 0), (.iconst 0, 0, 0, 0), (.istore_n 3, 0, 0, 0)] _ _ _ _ (by decide +kernel) ?_
    show G Γ m_MO_goes (d + 1) (0, 0) Q 19 [.ref r0, .int x1, .int (w 0), .int (w 0)] [] μ2
    exact h
  · replace h := h.1 hc
    show G Γ m_MO_goes (d + 1) (0, 0) Q 13 [.ref r0, .int x1] [] μ2
    refine run_ok (pc' := 14) [(.iconst (-1), 0, 0, 0)] _ _ _ _ (by decide +kernel) ?_
    show G Γ m_MO_goes (d + 1) (0, 0) Q 14 [.ref r0, .int x1] [.int (w (-1))] μ2
    exact g_reti (by decide +kernel) rfl h
set_option maxRecDepth 100000 in
theorem B_MO_goes_19 {Γ : XG} {d : Nat} {Q : Option Value → XM → Prop} {r0 : Nat} {x1 x2 x3 : Int32} {μ : XM} (o_r0_11 : ob μ r0 11) (h : ((x3 < xI μ r0 25 → Call Γ m_MO_fit d [.ref r0, .int x3, .int x1] μ (KI (fun v1 μ1 => ((v1 = w 0 → G Γ m_MO_goes (d + 1) (0, 0) Q 19 [.ref r0, .int x1, .int (x2 ||| (w 0)), .int (x3 + w 1)] [] μ1) ∧ (¬ v1 = w 0 → G Γ m_MO_goes (d + 1) (0, 0) Q 19 [.ref r0, .int x1, .int (x2 ||| ((w 1) <<< (x3 &&& 31))), .int (x3 + w 1)] [] μ1))))) ∧ (¬ x3 < xI μ r0 25 → Q (some (.int x2)) μ))) : G Γ m_MO_goes (d + 1) (0, 0) Q 19 [.ref r0, .int x1, .int x2, .int x3] [] μ := by
  refine run_ok (pc' := 24) [(.iload_n 3, 0, 0, 0), (.aload_n 0, 0, 0, 0), (.getfield 307, 11, 25, 0)] _ _ _ _ (by decide +kernel) ?_
  show _ ∧ (_)
  refine ⟨o_r0_11, ?_⟩
  show G Γ m_MO_goes (d + 1) (0, 0) Q 24 [.ref r0, .int x1, .int x2, .int x3] [.int (xI μ r0 25), .int x3] μ
  refine g_icmp_ge (pc' := 52) (off := 28) (by decide) (by decide +kernel) (fun hc => ?_) (fun hc => ?_)
  · replace h := h.2 hc
    show G Γ m_MO_goes (d + 1) (0, 0) Q 52 [.ref r0, .int x1, .int x2, .int x3] [] μ
    refine run_ok (pc' := 53) [(.iload_n 2, 0, 0, 0)] _ _ _ _ (by decide +kernel) ?_
    show G Γ m_MO_goes (d + 1) (0, 0) Q 53 [.ref r0, .int x1, .int x2, .int x3] [.int x2] μ
    exact g_reti (by decide +kernel) rfl h
  · replace h := h.1 hc
    show G Γ m_MO_goes (d + 1) (0, 0) Q 27 [.ref r0, .int x1, .int x2, .int x3] [] μ
    refine run_ok (pc' := 31) [(.iload_n 2, 0, 0, 0), (.aload_n 0, 0, 0, 0), (.iload_n 3, 0, 0, 0), (.iload_n 1, 0, 0, 0)] _ _ _ _ (by decide +kernel) ?_
    show G Γ m_MO_goes (d + 1) (0, 0) Q 31 [.ref r0, .int x1, .int x2, .int x3] [.int x1, .int x3, .ref r0, .int x2] μ
    refine g_invV (M' := m_MO_fit) (b1 := 0) (b2 := 0) (As := [.int x3, .int x1]) (a := r0) (st := [.int x2]) lk_11_449 (by decide +kernel) rfl (dk_MO_fit d) (Nat.le_of_ble_eq_true rfl) (Or.inl ⟨11, o_r0_11, rfl⟩) h ?_
    rintro _ μ1 ⟨v1, rfl, h⟩ hn1
    show G Γ m_MO_goes (d + 1) (0, 0) Q 34 [.ref r0, .int x1, .int x2, .int x3] [.int v1, .int x2] μ1
    refine g_ifz_eq (pc' := 43) (off := 9) (by decide) (by decide +kernel) (fun hc => ?_) (fun hc => ?_)
    · replace h := h.1 hc
      show G Γ m_MO_goes (d + 1) (0, 0) Q 43 [.ref r0, .int x1, .int x2, .int x3] [.int x2] μ1
      refine run_ok (pc' := 19) [(.iconst 0, 0, 0, 0), (.ior, 0, 0, 0), (.istore_n 2, 0, 0, 0), (.iinc 3 1, 0, 0, 0), (.goto (-30), 0, 0, 0)] _ _ _ _ (by decide +kernel) ?_
      show G Γ m_MO_goes (d + 1) (0, 0) Q 19 [.ref r0, .int x1, .int (x2 ||| (w 0)), .int (x3 + w 1)] [] μ1
      exact h
    · replace h := h.2 hc
      show G Γ m_MO_goes (d + 1) (0, 0) Q 37 [.ref r0, .int x1, .int x2, .int x3] [.int x2] μ1
      refine run_ok (pc' := 19) [(.iconst 1, 0, 0, 0), (.iload_n 3, 0, 0, 0), (.ishl, 0, 0, 0), (.goto 4, 0, 0, 0), (.ior, 0, 0, 0), (.istore_n 2, 0, 0, 0), (.iinc 3 1, 0, 0, 0), (.goto (-30), 0, 0, 0)] _ _ _ _ (by decide +kernel) ?_
      show G Γ m_MO_goes (d + 1) (0, 0) Q 19 [.ref r0, .int x1, .int (x2 ||| ((w 1) <<< (x3 &&& 31))), .int (x3 + w 1)] [] μ1
      exact h
/-! FrostBoxModel soonest(I)I -/
set_option maxRecDepth 100000 in
theorem B_MO_soonest_0 {Γ : XG} {d : Nat} {Q : Option Value → XM → Prop} {r0 r0_30 : Nat} {x1 : Int32} {μ : XM} (o_r0_11 : ob μ r0 11) (e_r0_30 : xR μ r0 30 = some r0_30) (h : ∀ μ1, μ1 = sI μ r0 0 (w 0) → Call Γ m_MO_isBox d [.ref r0, .ref r0_30, .int x1] μ1 (KI (fun v2 μ2 => ((v2 = w 0 → Q (some (.int (w (-1)))) μ2) ∧ (¬ v2 = w 0 → G Γ m_MO_soonest (d + 1) (0, 0) Q 21 [.ref r0, .int x1, .int (w 0)] [] μ2))))) : G Γ m_MO_soonest (d + 1) (0, 0) Q 0 [.ref r0, .int x1] [] μ := by
  refine run_ok (pc' := 5) [(.aload_n 0, 0, 0, 0), (.iconst 0, 0, 0, 0), (.putfield 109, 11, 0, 0)] _ _ _ _ (by decide +kernel) ?_
  show _ ∧ (_)
  refine ⟨o_r0_11, ?_⟩
  show G Γ m_MO_soonest (d + 1) (0, 0) Q 5 [.ref r0, .int x1] [] (sI μ r0 0 (w 0))
  obtain ⟨μ1, em1⟩ : ∃ m : XM, m = sI μ r0 0 (w 0) := ⟨_, rfl⟩
  replace h := h μ1 em1
  have hm1 : xN μ ≤ xN μ1 := by rw [em1]; exact Nat.le_refl _
  rw [← em1]
  refine run_ok (pc' := 11) [(.aload_n 0, 0, 0, 0), (.aload_n 0, 0, 0, 0), (.getfield 58, 11, 30, 2), (.iload_n 1, 0, 0, 0)] _ _ _ _ (by decide +kernel) ?_
  show _ ∧ (∃ _, _ ∧ (_))
  refine ⟨((o_r0_11).mono hm1), r0_30, (by rw [em1]; exact e_r0_30), ?_⟩
  show G Γ m_MO_soonest (d + 1) (0, 0) Q 11 [.ref r0, .int x1] [.int x1, .ref r0_30, .ref r0] μ1
  refine g_invV (M' := m_MO_isBox) (b1 := 0) (b2 := 0) (As := [.ref r0_30, .int x1]) (a := r0) (st := []) lk_11_361 (by decide +kernel) rfl (dk_MO_isBox d) (Nat.le_of_ble_eq_true rfl) (Or.inl ⟨11, ((o_r0_11).mono hm1), rfl⟩) h ?_
  rintro _ μ2 ⟨v2, rfl, h⟩ hn2
  show G Γ m_MO_soonest (d + 1) (0, 0) Q 14 [.ref r0, .int x1] [.int v2] μ2
  refine g_ifz_ne (pc' := 19) (off := 5) (by decide) (by decide +kernel) (fun hc => ?_) (fun hc => ?_)
  · replace h := h.2 hc
    show G Γ m_MO_soonest (d + 1) (0, 0) Q 19 [.ref r0, .int x1] [] μ2
    refine run_ok (pc' := 21) [(.iconst 0, 0, 0, 0), (.istore_n 2, 0, 0, 0)] _ _ _ _ (by decide +kernel) ?_
    show G Γ m_MO_soonest (d + 1) (0, 0) Q 21 [.ref r0, .int x1, .int (w 0)] [] μ2
    exact h
  · replace h := h.1 hc
    show G Γ m_MO_soonest (d + 1) (0, 0) Q 17 [.ref r0, .int x1] [] μ2
    refine run_ok (pc' := 18) [(.iconst (-1), 0, 0, 0)] _ _ _ _ (by decide +kernel) ?_
    show G Γ m_MO_soonest (d + 1) (0, 0) Q 18 [.ref r0, .int x1] [.int (w (-1))] μ2
    exact g_reti (by decide +kernel) rfl h
set_option maxRecDepth 100000 in
theorem B_MO_soonest_21 {Γ : XG} {d : Nat} {Q : Option Value → XM → Prop} {r0 r0_30 : Nat} {x1 x2 : Int32} {μ : XM} (o_r0_11 : ob μ r0 11) (e_r0_30 : xR μ r0 30 = some r0_30) (h : ((w 99 < x2 → Q (some (.int (w (-1)))) μ) ∧ (¬ w 99 < x2 → inb μ 0 r0_30 (w 40) ∧ Call Γ m_MO_valueOn d [.ref r0, .ref r0_30, .int x1, .int (((xI μ r0_30 (w 40).toNatClampNeg) - (w 1)) - x1), .int x2] μ (KI (fun v2 μ2 => ((v2 = w 0 → Q (some (.int x2)) μ2) ∧ (¬ v2 = w 0 → G Γ m_MO_soonest (d + 1) (0, 0) Q 21 [.ref r0, .int x1, .int (x2 + w 1)] [] μ2))))))) : G Γ m_MO_soonest (d + 1) (0, 0) Q 21 [.ref r0, .int x1, .int x2] [] μ := by
  refine run_ok (pc' := 24) [(.iload_n 2, 0, 0, 0), (.bipush 99, 0, 0, 0)] _ _ _ _ (by decide +kernel) ?_
  show G Γ m_MO_soonest (d + 1) (0, 0) Q 24 [.ref r0, .int x1, .int x2] [.int (w 99), .int x2] μ
  refine g_icmp_gt (pc' := 59) (off := 35) (by decide) (by decide +kernel) (fun hc => ?_) (fun hc => ?_)
  · replace h := h.1 hc
    show G Γ m_MO_soonest (d + 1) (0, 0) Q 59 [.ref r0, .int x1, .int x2] [] μ
    refine run_ok (pc' := 60) [(.iconst (-1), 0, 0, 0)] _ _ _ _ (by decide +kernel) ?_
    show G Γ m_MO_soonest (d + 1) (0, 0) Q 60 [.ref r0, .int x1, .int x2] [.int (w (-1))] μ
    exact g_reti (by decide +kernel) rfl h
  · replace h := h.2 hc
    show G Γ m_MO_soonest (d + 1) (0, 0) Q 27 [.ref r0, .int x1, .int x2] [] μ
    obtain ⟨ib1, h⟩ := h
    refine run_ok (pc' := 45) [(.aload_n 0, 0, 0, 0), (.aload_n 0, 0, 0, 0), (.getfield 58, 11, 30, 2), (.iload_n 1, 0, 0, 0), (.aload_n 0, 0, 0, 0), (.getfield 58, 11, 30, 2), (.bipush 40, 0, 0, 0), (.iaload, 0, 0, 0), (.iconst 1, 0, 0, 0), (.isub, 0, 0, 0), (.iload_n 1, 0, 0, 0), (.isub, 0, 0, 0), (.iload_n 2, 0, 0, 0)] _ _ _ _ (by decide +kernel) ?_
    show _ ∧ (∃ _, _ ∧ (_ ∧ (∃ _, _ ∧ (_ ∧ (_)))))
    refine ⟨o_r0_11, r0_30, e_r0_30, o_r0_11, r0_30, e_r0_30, ib1, ?_⟩
    show G Γ m_MO_soonest (d + 1) (0, 0) Q 45 [.ref r0, .int x1, .int x2] [.int x2, .int (((xI μ r0_30 (w 40).toNatClampNeg) - (w 1)) - x1), .int x1, .ref r0_30, .ref r0] μ
    refine g_invV (M' := m_MO_valueOn) (b1 := 0) (b2 := 0) (As := [.ref r0_30, .int x1, .int (((xI μ r0_30 (w 40).toNatClampNeg) - (w 1)) - x1), .int x2]) (a := r0) (st := []) lk_11_346 (by decide +kernel) rfl (dk_MO_valueOn d) (Nat.le_of_ble_eq_true rfl) (Or.inl ⟨11, o_r0_11, rfl⟩) h ?_
    rintro _ μ2 ⟨v2, rfl, h⟩ hn2
    show G Γ m_MO_soonest (d + 1) (0, 0) Q 48 [.ref r0, .int x1, .int x2] [.int v2] μ2
    refine g_ifz_ne (pc' := 53) (off := 5) (by decide) (by decide +kernel) (fun hc => ?_) (fun hc => ?_)
    · replace h := h.2 hc
      show G Γ m_MO_soonest (d + 1) (0, 0) Q 53 [.ref r0, .int x1, .int x2] [] μ2
      refine run_ok (pc' := 21) [(.iinc 2 1, 0, 0, 0), (.goto (-35), 0, 0, 0)] _ _ _ _ (by decide +kernel) ?_
      show G Γ m_MO_soonest (d + 1) (0, 0) Q 21 [.ref r0, .int x1, .int (x2 + w 1)] [] μ2
      exact h
    · replace h := h.1 hc
      show G Γ m_MO_soonest (d + 1) (0, 0) Q 51 [.ref r0, .int x1, .int x2] [] μ2
      refine run_ok (pc' := 52) [(.iload_n 2, 0, 0, 0)] _ _ _ _ (by decide +kernel) ?_
      show G Γ m_MO_soonest (d + 1) (0, 0) Q 52 [.ref r0, .int x1, .int x2] [.int x2] μ2
      exact g_reti (by decide +kernel) rfl h
/-! FrostBoxModel monthly(I)I -/
set_option maxRecDepth 100000 in
theorem B_MO_monthly_0 {Γ : XG} {d : Nat} {Q : Option Value → XM → Prop} {r0 : Nat} {x1 : Int32} {μ : XM} (o_r0_11 : ob μ r0 11) (h : ∀ μ1, μ1 = sI μ r0 0 (w 0) → ((xI μ1 r0 25 = w 0 → Q (some (.int (w (-1)))) μ1) ∧ (¬ xI μ1 r0 25 = w 0 → Call Γ m_MO_isIn d [.long (x1.toInt64), .long (wl 0), .long (wl 60)] μ1 (KI (fun v2 μ2 => ((v2 = w 0 → Q (some (.int (w (-1)))) μ2) ∧ (¬ v2 = w 0 → G Γ m_MO_monthly (d + 1) (0, 0) Q 30 [.ref r0, .int x1, .int (w 0), .int (w 0)] [] μ2))))))) : G Γ m_MO_monthly (d + 1) (0, 0) Q 0 [.ref r0, .int x1] [] μ := by
  refine run_ok (pc' := 5) [(.aload_n 0, 0, 0, 0), (.iconst 0, 0, 0, 0), (.putfield 109, 11, 0, 0)] _ _ _ _ (by decide +kernel) ?_
  show _ ∧ (_)
  refine ⟨o_r0_11, ?_⟩
  show G Γ m_MO_monthly (d + 1) (0, 0) Q 5 [.ref r0, .int x1] [] (sI μ r0 0 (w 0))
  obtain ⟨μ1, em1⟩ : ∃ m : XM, m = sI μ r0 0 (w 0) := ⟨_, rfl⟩
  replace h := h μ1 em1
  have hm1 : xN μ ≤ xN μ1 := by rw [em1]; exact Nat.le_refl _
  rw [← em1]
  refine run_ok (pc' := 9) [(.aload_n 0, 0, 0, 0), (.getfield 307, 11, 25, 0)] _ _ _ _ (by decide +kernel) ?_
  show _ ∧ (_)
  refine ⟨((o_r0_11).mono hm1), ?_⟩
  show G Γ m_MO_monthly (d + 1) (0, 0) Q 9 [.ref r0, .int x1] [.int (xI μ1 r0 25)] μ1
  refine g_ifz_eq (pc' := 24) (off := 15) (by decide) (by decide +kernel) (fun hc => ?_) (fun hc => ?_)
  · replace h := h.1 hc
    show G Γ m_MO_monthly (d + 1) (0, 0) Q 24 [.ref r0, .int x1] [] μ1
    refine run_ok (pc' := 25) [(.iconst (-1), 0, 0, 0)] _ _ _ _ (by decide +kernel) ?_
    show G Γ m_MO_monthly (d + 1) (0, 0) Q 25 [.ref r0, .int x1] [.int (w (-1))] μ1
    exact g_reti (by decide +kernel) rfl h
  · replace h := h.2 hc
    show G Γ m_MO_monthly (d + 1) (0, 0) Q 12 [.ref r0, .int x1] [] μ1
    refine run_ok (pc' := 18) [(.iload_n 1, 0, 0, 0), (.i2l, 0, 0, 0), (.lconst 0, 0, 0, 0), (.ldc2_w 520, 0, 0, 60)] _ _ _ _ (by decide +kernel) ?_
    show G Γ m_MO_monthly (d + 1) (0, 0) Q 18 [.ref r0, .int x1] [.long (wl 60), .long (wl 0), .long (x1.toInt64)] μ1
    refine g_invS (M' := m_MO_isIn) (b1 := 0) (b2 := 0) (As := [.long (x1.toInt64), .long (wl 0), .long (wl 60)]) (st := []) lk_11_230 (by decide +kernel) rfl (dk_MO_isIn d) (Nat.le_of_ble_eq_true rfl) h ?_
    rintro _ μ2 ⟨v2, rfl, h⟩ hn2
    show G Γ m_MO_monthly (d + 1) (0, 0) Q 21 [.ref r0, .int x1] [.int v2] μ2
    refine g_ifz_ne (pc' := 26) (off := 5) (by decide) (by decide +kernel) (fun hc => ?_) (fun hc => ?_)
    · replace h := h.2 hc
      show G Γ m_MO_monthly (d + 1) (0, 0) Q 26 [.ref r0, .int x1] [] μ2
      refine run_ok (pc' := 30) [(.iconst 0, 0, 0, 0), (.istore_n 2, 0, 0, 0), (.iconst 0, 0, 0, 0), (.istore_n 3, 0, 0, 0)] _ _ _ _ (by decide +kernel) ?_
      show G Γ m_MO_monthly (d + 1) (0, 0) Q 30 [.ref r0, .int x1, .int (w 0), .int (w 0)] [] μ2
      exact h
    · replace h := h.1 hc
      show G Γ m_MO_monthly (d + 1) (0, 0) Q 24 [.ref r0, .int x1] [] μ2
      refine run_ok (pc' := 25) [(.iconst (-1), 0, 0, 0)] _ _ _ _ (by decide +kernel) ?_
      show G Γ m_MO_monthly (d + 1) (0, 0) Q 25 [.ref r0, .int x1] [.int (w (-1))] μ2
      exact g_reti (by decide +kernel) rfl h
set_option maxRecDepth 100000 in
theorem B_MO_monthly_30 {Γ : XG} {d : Nat} {Q : Option Value → XM → Prop} {r0 r0_30 : Nat} {x1 x2 x3 : Int32} {μ : XM} (o_r0_11 : ob μ r0 11) (e_r0_30 : xR μ r0 30 = some r0_30) (h : inb μ 0 r0_30 (w 40) ∧ ((x3 < xI μ r0_30 (w 40).toNatClampNeg → inb μ 0 r0_30 (w 40) ∧ Call Γ m_MO_valueOn d [.ref r0, .ref r0_30, .int x3, .int (((xI μ r0_30 (w 40).toNatClampNeg) - (w 1)) - x3), .int x1] μ (KI (fun v3 μ3 => G Γ m_MO_monthly (d + 1) (0, 0) Q 30 [.ref r0, .int x1, .int (x2 + v3), .int (x3 + w 1)] [] μ3))) ∧ (¬ x3 < xI μ r0_30 (w 40).toNatClampNeg → Q (some (.int x2)) μ))) : G Γ m_MO_monthly (d + 1) (0, 0) Q 30 [.ref r0, .int x1, .int x2, .int x3] [] μ := by
  obtain ⟨ib1, h⟩ := h
  refine run_ok (pc' := 38) [(.iload_n 3, 0, 0, 0), (.aload_n 0, 0, 0, 0), (.getfield 58, 11, 30, 2), (.bipush 40, 0, 0, 0), (.iaload, 0, 0, 0)] _ _ _ _ (by decide +kernel) ?_
  show _ ∧ (∃ _, _ ∧ (_ ∧ (_)))
  refine ⟨o_r0_11, r0_30, e_r0_30, ib1, ?_⟩
  show G Γ m_MO_monthly (d + 1) (0, 0) Q 38 [.ref r0, .int x1, .int x2, .int x3] [.int (xI μ r0_30 (w 40).toNatClampNeg), .int x3] μ
  refine g_icmp_ge (pc' := 71) (off := 33) (by decide) (by decide +kernel) (fun hc => ?_) (fun hc => ?_)
  · replace h := h.2 hc
    show G Γ m_MO_monthly (d + 1) (0, 0) Q 71 [.ref r0, .int x1, .int x2, .int x3] [] μ
    refine run_ok (pc' := 72) [(.iload_n 2, 0, 0, 0)] _ _ _ _ (by decide +kernel) ?_
    show G Γ m_MO_monthly (d + 1) (0, 0) Q 72 [.ref r0, .int x1, .int x2, .int x3] [.int x2] μ
    exact g_reti (by decide +kernel) rfl h
  · replace h := h.1 hc
    show G Γ m_MO_monthly (d + 1) (0, 0) Q 41 [.ref r0, .int x1, .int x2, .int x3] [] μ
    obtain ⟨ib2, h⟩ := h
    refine run_ok (pc' := 60) [(.iload_n 2, 0, 0, 0), (.aload_n 0, 0, 0, 0), (.aload_n 0, 0, 0, 0), (.getfield 58, 11, 30, 2), (.iload_n 3, 0, 0, 0), (.aload_n 0, 0, 0, 0), (.getfield 58, 11, 30, 2), (.bipush 40, 0, 0, 0), (.iaload, 0, 0, 0), (.iconst 1, 0, 0, 0), (.isub, 0, 0, 0), (.iload_n 3, 0, 0, 0), (.isub, 0, 0, 0), (.iload_n 1, 0, 0, 0)] _ _ _ _ (by decide +kernel) ?_
    show _ ∧ (∃ _, _ ∧ (_ ∧ (∃ _, _ ∧ (_ ∧ (_)))))
    refine ⟨o_r0_11, r0_30, e_r0_30, o_r0_11, r0_30, e_r0_30, ib2, ?_⟩
    show G Γ m_MO_monthly (d + 1) (0, 0) Q 60 [.ref r0, .int x1, .int x2, .int x3] [.int x1, .int (((xI μ r0_30 (w 40).toNatClampNeg) - (w 1)) - x3), .int x3, .ref r0_30, .ref r0, .int x2] μ
    refine g_invV (M' := m_MO_valueOn) (b1 := 0) (b2 := 0) (As := [.ref r0_30, .int x3, .int (((xI μ r0_30 (w 40).toNatClampNeg) - (w 1)) - x3), .int x1]) (a := r0) (st := [.int x2]) lk_11_346 (by decide +kernel) rfl (dk_MO_valueOn d) (Nat.le_of_ble_eq_true rfl) (Or.inl ⟨11, o_r0_11, rfl⟩) h ?_
    rintro _ μ3 ⟨v3, rfl, h⟩ hn3
    show G Γ m_MO_monthly (d + 1) (0, 0) Q 63 [.ref r0, .int x1, .int x2, .int x3] [.int v3, .int x2] μ3
    refine run_ok (pc' := 30) [(.iadd, 0, 0, 0), (.istore_n 2, 0, 0, 0), (.iinc 3 1, 0, 0, 0), (.goto (-38), 0, 0, 0)] _ _ _ _ (by decide +kernel) ?_
    show G Γ m_MO_monthly (d + 1) (0, 0) Q 30 [.ref r0, .int x1, .int (x2 + v3), .int (x3 + w 1)] [] μ3
    exact h
/-! FrostBoxModel make(II)I -/
set_option maxRecDepth 100000 in
theorem B_MO_make_0 {Γ : XG} {d : Nat} {Q : Option Value → XM → Prop} {r0 : Nat} {x1 x2 : Int32} {μ : XM} (o_r0_11 : ob μ r0 11) (h : ∀ μ1, μ1 = sI μ r0 0 (w 0) → Call Γ m_MO_isKind d [.ref r0, .int x1] μ1 (KI (fun v2 μ2 => ((v2 = w 0 → Q (some (.int (w (-1)))) μ2) ∧ (¬ v2 = w 0 → Call Γ m_MO_isIn d [.long (x2.toInt64), .long (wl 1), .long (wl 81)] μ2 (KI (fun v3 μ3 => ((v3 = w 0 → Q (some (.int (w (-1)))) μ3) ∧ (¬ v3 = w 0 → Call Γ m_MO_told d [.ref r0, .int x1, .int (w 1)] μ3 (KI (fun v4 μ4 => ¬ v4 = 0 ∧ ((x2 - x2 / v4 * v4 = w 0 → ¬ v4 = 0 ∧ ((w 9 < x2 / v4 → Q (some (.int (w (-1)))) μ4) ∧ (¬ w 9 < x2 / v4 → ¬ v4 = 0 ∧ Q (some (.int (x2 / v4))) μ4))) ∧ (¬ x2 - x2 / v4 * v4 = w 0 → Q (some (.int (w (-1)))) μ4))))))))))))) : G Γ m_MO_make (d + 1) (0, 0) Q 0 [.ref r0, .int x1, .int x2] [] μ := by
  refine run_ok (pc' := 5) [(.aload_n 0, 0, 0, 0), (.iconst 0, 0, 0, 0), (.putfield 109, 11, 0, 0)] _ _ _ _ (by decide +kernel) ?_
  show _ ∧ (_)
  refine ⟨o_r0_11, ?_⟩
  show G Γ m_MO_make (d + 1) (0, 0) Q 5 [.ref r0, .int x1, .int x2] [] (sI μ r0 0 (w 0))
  obtain ⟨μ1, em1⟩ : ∃ m : XM, m = sI μ r0 0 (w 0) := ⟨_, rfl⟩
  replace h := h μ1 em1
  have hm1 : xN μ ≤ xN μ1 := by rw [em1]; exact Nat.le_refl _
  rw [← em1]
  refine run_ok (pc' := 7) [(.aload_n 0, 0, 0, 0), (.iload_n 1, 0, 0, 0)] _ _ _ _ (by decide +kernel) ?_
  show G Γ m_MO_make (d + 1) (0, 0) Q 7 [.ref r0, .int x1, .int x2] [.int x1, .ref r0] μ1
  refine g_invV (M' := m_MO_isKind) (b1 := 0) (b2 := 0) (As := [.int x1]) (a := r0) (st := []) lk_11_356 (by decide +kernel) rfl (dk_MO_isKind d) (Nat.le_of_ble_eq_true rfl) (Or.inl ⟨11, ((o_r0_11).mono hm1), rfl⟩) h ?_
  rintro _ μ2 ⟨v2, rfl, h⟩ hn2
  show G Γ m_MO_make (d + 1) (0, 0) Q 10 [.ref r0, .int x1, .int x2] [.int v2] μ2
  refine g_ifz_eq (pc' := 25) (off := 15) (by decide) (by decide +kernel) (fun hc => ?_) (fun hc => ?_)
  · replace h := h.1 hc
    show G Γ m_MO_make (d + 1) (0, 0) Q 25 [.ref r0, .int x1, .int x2] [] μ2
    refine run_ok (pc' := 26) [(.iconst (-1), 0, 0, 0)] _ _ _ _ (by decide +kernel) ?_
    show G Γ m_MO_make (d + 1) (0, 0) Q 26 [.ref r0, .int x1, .int x2] [.int (w (-1))] μ2
    exact g_reti (by decide +kernel) rfl h
  · replace h := h.2 hc
    show G Γ m_MO_make (d + 1) (0, 0) Q 13 [.ref r0, .int x1, .int x2] [] μ2
    refine run_ok (pc' := 19) [(.iload_n 2, 0, 0, 0), (.i2l, 0, 0, 0), (.lconst 1, 0, 0, 1), (.ldc2_w 522, 0, 0, 81)] _ _ _ _ (by decide +kernel) ?_
    show G Γ m_MO_make (d + 1) (0, 0) Q 19 [.ref r0, .int x1, .int x2] [.long (wl 81), .long (wl 1), .long (x2.toInt64)] μ2
    refine g_invS (M' := m_MO_isIn) (b1 := 0) (b2 := 0) (As := [.long (x2.toInt64), .long (wl 1), .long (wl 81)]) (st := []) lk_11_230 (by decide +kernel) rfl (dk_MO_isIn d) (Nat.le_of_ble_eq_true rfl) h ?_
    rintro _ μ3 ⟨v3, rfl, h⟩ hn3
    show G Γ m_MO_make (d + 1) (0, 0) Q 22 [.ref r0, .int x1, .int x2] [.int v3] μ3
    refine g_ifz_ne (pc' := 27) (off := 5) (by decide) (by decide +kernel) (fun hc => ?_) (fun hc => ?_)
    · replace h := h.2 hc
      show G Γ m_MO_make (d + 1) (0, 0) Q 27 [.ref r0, .int x1, .int x2] [] μ3
      refine run_ok (pc' := 30) [(.aload_n 0, 0, 0, 0), (.iload_n 1, 0, 0, 0), (.iconst 1, 0, 0, 0)] _ _ _ _ (by decide +kernel) ?_
      show G Γ m_MO_make (d + 1) (0, 0) Q 30 [.ref r0, .int x1, .int x2] [.int (w 1), .int x1, .ref r0] μ3
      refine g_invV (M' := m_MO_told) (b1 := 0) (b2 := 0) (As := [.int x1, .int (w 1)]) (a := r0) (st := []) lk_11_322 (by decide +kernel) rfl (dk_MO_told d) (Nat.le_of_ble_eq_true rfl) (Or.inl ⟨11, ((((o_r0_11).mono hm1).mono hn2).mono hn3), rfl⟩) h ?_
      rintro _ μ4 ⟨v4, rfl, h⟩ hn4
      show G Γ m_MO_make (d + 1) (0, 0) Q 33 [.ref r0, .int x1, .int x2] [.int v4] μ4
      obtain ⟨nz5, h⟩ := h
      refine run_ok (pc' := 37) [(.istore_n 3, 0, 0, 0), (.iload_n 2, 0, 0, 0), (.iload_n 3, 0, 0, 0), (.irem, 0, 0, 0)] _ _ _ _ (by decide +kernel) ?_
      show _ ∧ (_)
      refine ⟨nz5, ?_⟩
      show G Γ m_MO_make (d + 1) (0, 0) Q 37 [.ref r0, .int x1, .int x2, .int v4] [.int (x2 - x2 / v4 * v4)] μ4
      refine g_ifz_ne (pc' := 54) (off := 17) (by decide) (by decide +kernel) (fun hc => ?_) (fun hc => ?_)
      · replace h := h.2 hc
        show G Γ m_MO_make (d + 1) (0, 0) Q 54 [.ref r0, .int x1, .int x2, .int v4] [] μ4
        refine run_ok (pc' := 55) [(.iconst (-1), 0, 0, 0)] _ _ _ _ (by decide +kernel) ?_
        show G Γ m_MO_make (d + 1) (0, 0) Q 55 [.ref r0, .int x1, .int x2, .int v4] [.int (w (-1))] μ4
        exact g_reti (by decide +kernel) rfl h
      · replace h := h.1 hc
        show G Γ m_MO_make (d + 1) (0, 0) Q 40 [.ref r0, .int x1, .int x2, .int v4] [] μ4
        obtain ⟨nz6, h⟩ := h
        refine run_ok (pc' := 45) [(.iload_n 2, 0, 0, 0), (.iload_n 3, 0, 0, 0), (.idiv, 0, 0, 0), (.bipush 9, 0, 0, 0)] _ _ _ _ (by decide +kernel) ?_
        show _ ∧ (_)
        refine ⟨nz6, ?_⟩
        show G Γ m_MO_make (d + 1) (0, 0) Q 45 [.ref r0, .int x1, .int x2, .int v4] [.int (w 9), .int (x2 / v4)] μ4
        refine g_icmp_gt (pc' := 54) (off := 9) (by decide) (by decide +kernel) (fun hc => ?_) (fun hc => ?_)
        · replace h := h.1 hc
          show G Γ m_MO_make (d + 1) (0, 0) Q 54 [.ref r0, .int x1, .int x2, .int v4] [] μ4
          refine run_ok (pc' := 55) [(.iconst (-1), 0, 0, 0)] _ _ _ _ (by decide +kernel) ?_
          show G Γ m_MO_make (d + 1) (0, 0) Q 55 [.ref r0, .int x1, .int x2, .int v4] [.int (w (-1))] μ4
          exact g_reti (by decide +kernel) rfl h
        · replace h := h.2 hc
          show G Γ m_MO_make (d + 1) (0, 0) Q 48 [.ref r0, .int x1, .int x2, .int v4] [] μ4
          obtain ⟨nz7, h⟩ := h
          refine run_ok (pc' := 55) [(.iload_n 2, 0, 0, 0), (.iload_n 3, 0, 0, 0), (.idiv, 0, 0, 0), (.goto 4, 0, 0, 0)] _ _ _ _ (by decide +kernel) ?_
          show _ ∧ (_)
          refine ⟨nz7, ?_⟩
          show G Γ m_MO_make (d + 1) (0, 0) Q 55 [.ref r0, .int x1, .int x2, .int v4] [.int (x2 / v4)] μ4
          exact g_reti (by decide +kernel) rfl h
    · replace h := h.1 hc
      show G Γ m_MO_make (d + 1) (0, 0) Q 25 [.ref r0, .int x1, .int x2] [] μ3
      refine run_ok (pc' := 26) [(.iconst (-1), 0, 0, 0)] _ _ _ _ (by decide +kernel) ?_
      show G Γ m_MO_make (d + 1) (0, 0) Q 26 [.ref r0, .int x1, .int x2] [.int (w (-1))] μ3
      exact g_reti (by decide +kernel) rfl h
/-! FrostBoxModel image()I -/
set_option maxRecDepth 100000 in
theorem B_MO_image_0 {Γ : XG} {d : Nat} {Q : Option Value → XM → Prop} {r0 r0_30 r0_54 : Nat} {μ : XM} (o_r0_11 : ob μ r0 11) (e_r0_30 : xR μ r0 30 = some r0_30) (e_r0_54 : xR μ r0 54 = some r0_54) (h : ∀ μ1, μ1 = sI μ r0 0 (w 0) → ((xI μ1 r0 25 = w 0 → Q (some (.int (w (-1)))) μ1) ∧ (¬ xI μ1 r0 25 = w 0 → Call Γ m_MO_copy d [.ref r0_30, .ref r0_54] μ1 (KV (fun μ2 => ∀ μ3, μ3 = sI μ2 r0 55 (w 1) → xR μ3 r0 30 = some r0_30 ∧ inb μ3 0 r0_30 (w 41) ∧ Q (some (.int (xI μ3 r0_30 (w 41).toNatClampNeg))) μ3))))) : G Γ m_MO_image (d + 1) (0, 0) Q 0 [.ref r0] [] μ := by
  refine run_ok (pc' := 5) [(.aload_n 0, 0, 0, 0), (.iconst 0, 0, 0, 0), (.putfield 109, 11, 0, 0)] _ _ _ _ (by decide +kernel) ?_
  show _ ∧ (_)
  refine ⟨o_r0_11, ?_⟩
  show G Γ m_MO_image (d + 1) (0, 0) Q 5 [.ref r0] [] (sI μ r0 0 (w 0))
  obtain ⟨μ1, em1⟩ : ∃ m : XM, m = sI μ r0 0 (w 0) := ⟨_, rfl⟩
  replace h := h μ1 em1
  have hm1 : xN μ ≤ xN μ1 := by rw [em1]; exact Nat.le_refl _
  rw [← em1]
  refine run_ok (pc' := 9) [(.aload_n 0, 0, 0, 0), (.getfield 307, 11, 25, 0)] _ _ _ _ (by decide +kernel) ?_
  show _ ∧ (_)
  refine ⟨((o_r0_11).mono hm1), ?_⟩
  show G Γ m_MO_image (d + 1) (0, 0) Q 9 [.ref r0] [.int (xI μ1 r0 25)] μ1
  refine g_ifz_ne (pc' := 14) (off := 5) (by decide) (by decide +kernel) (fun hc => ?_) (fun hc => ?_)
  · replace h := h.2 hc
    show G Γ m_MO_image (d + 1) (0, 0) Q 14 [.ref r0] [] μ1
    refine run_ok (pc' := 22) [(.aload_n 0, 0, 0, 0), (.getfield 58, 11, 30, 2), (.aload_n 0, 0, 0, 0), (.getfield 106, 11, 54, 2)] _ _ _ _ (by decide +kernel) ?_
    show _ ∧ (∃ _, _ ∧ (_ ∧ (∃ _, _ ∧ (_))))
    refine ⟨((o_r0_11).mono hm1), r0_30, (by rw [em1]; exact e_r0_30), ((o_r0_11).mono hm1), r0_54, (by rw [em1]; exact e_r0_54), ?_⟩
    show G Γ m_MO_image (d + 1) (0, 0) Q 22 [.ref r0] [.ref r0_54, .ref r0_30] μ1
    refine g_invS (M' := m_MO_copy) (b1 := 0) (b2 := 0) (As := [.ref r0_30, .ref r0_54]) (st := []) lk_11_433 (by decide +kernel) rfl (dk_MO_copy d) (Nat.le_of_ble_eq_true rfl) h ?_
    rintro _ μ2 ⟨rfl, h⟩ hn2
    show G Γ m_MO_image (d + 1) (0, 0) Q 25 [.ref r0] [] μ2
    refine run_ok (pc' := 30) [(.aload_n 0, 0, 0, 0), (.iconst 1, 0, 0, 0), (.putfield 319, 11, 55, 3)] _ _ _ _ (by decide +kernel) ?_
    show _ ∧ (_ ∧ (_))
    refine ⟨(((o_r0_11).mono hm1).mono hn2), Or.inr rfl, ?_⟩
    show G Γ m_MO_image (d + 1) (0, 0) Q 30 [.ref r0] [] (sI μ2 r0 55 (w 1))
    obtain ⟨μ3, em3⟩ : ∃ m : XM, m = sI μ2 r0 55 (w 1) := ⟨_, rfl⟩
    replace h := h μ3 em3
    have hm3 : xN μ2 ≤ xN μ3 := by rw [em3]; exact Nat.le_refl _
    rw [← em3]
    obtain ⟨ea4, h⟩ := h
    obtain ⟨ib5, h⟩ := h
    refine run_ok (pc' := 37) [(.aload_n 0, 0, 0, 0), (.getfield 58, 11, 30, 2), (.bipush 41, 0, 0, 0), (.iaload, 0, 0, 0)] _ _ _ _ (by decide +kernel) ?_
    show _ ∧ (∃ _, _ ∧ (_ ∧ (_)))
    refine ⟨((((o_r0_11).mono hm1).mono hn2).mono hm3), r0_30, ea4, ib5, ?_⟩
    show G Γ m_MO_image (d + 1) (0, 0) Q 37 [.ref r0] [.int (xI μ3 r0_30 (w 41).toNatClampNeg)] μ3
    exact g_reti (by decide +kernel) rfl h
  · replace h := h.1 hc
    show G Γ m_MO_image (d + 1) (0, 0) Q 12 [.ref r0] [] μ1
    refine run_ok (pc' := 13) [(.iconst (-1), 0, 0, 0)] _ _ _ _ (by decide +kernel) ?_
    show G Γ m_MO_image (d + 1) (0, 0) Q 13 [.ref r0] [.int (w (-1))] μ1
    exact g_reti (by decide +kernel) rfl h
/-! FrostBoxModel back()I -/
set_option maxRecDepth 100000 in
theorem B_MO_back_0 {Γ : XG} {d : Nat} {Q : Option Value → XM → Prop} {r0 r0_54 r0_30 : Nat} {μ : XM} (o_r0_11 : ob μ r0 11) (e_r0_54 : xR μ r0 54 = some r0_54) (e_r0_30 : xR μ r0 30 = some r0_30) (h : ∀ μ1, μ1 = sI μ r0 0 (w 0) → ((xI μ1 r0 55 = w 0 → Q (some (.int (w (-1)))) μ1) ∧ (¬ xI μ1 r0 55 = w 0 → Call Γ m_MO_copy d [.ref r0_54, .ref r0_30] μ1 (KV (fun μ2 => ∀ μ3, μ3 = sI μ2 r0 37 (w 0) → xR μ3 r0 30 = some r0_30 ∧ inb μ3 0 r0_30 (w 41) ∧ Q (some (.int (xI μ3 r0_30 (w 41).toNatClampNeg))) μ3))))) : G Γ m_MO_back (d + 1) (0, 0) Q 0 [.ref r0] [] μ := by
  refine run_ok (pc' := 5) [(.aload_n 0, 0, 0, 0), (.iconst 0, 0, 0, 0), (.putfield 109, 11, 0, 0)] _ _ _ _ (by decide +kernel) ?_
  show _ ∧ (_)
  refine ⟨o_r0_11, ?_⟩
  show G Γ m_MO_back (d + 1) (0, 0) Q 5 [.ref r0] [] (sI μ r0 0 (w 0))
  obtain ⟨μ1, em1⟩ : ∃ m : XM, m = sI μ r0 0 (w 0) := ⟨_, rfl⟩
  replace h := h μ1 em1
  have hm1 : xN μ ≤ xN μ1 := by rw [em1]; exact Nat.le_refl _
  rw [← em1]
  refine run_ok (pc' := 9) [(.aload_n 0, 0, 0, 0), (.getfield 319, 11, 55, 0)] _ _ _ _ (by decide +kernel) ?_
  show _ ∧ (_)
  refine ⟨((o_r0_11).mono hm1), ?_⟩
  show G Γ m_MO_back (d + 1) (0, 0) Q 9 [.ref r0] [.int (xI μ1 r0 55)] μ1
  refine g_ifz_ne (pc' := 14) (off := 5) (by decide) (by decide +kernel) (fun hc => ?_) (fun hc => ?_)
  · replace h := h.2 hc
    show G Γ m_MO_back (d + 1) (0, 0) Q 14 [.ref r0] [] μ1
    refine run_ok (pc' := 22) [(.aload_n 0, 0, 0, 0), (.getfield 106, 11, 54, 2), (.aload_n 0, 0, 0, 0), (.getfield 58, 11, 30, 2)] _ _ _ _ (by decide +kernel) ?_
    show _ ∧ (∃ _, _ ∧ (_ ∧ (∃ _, _ ∧ (_))))
    refine ⟨((o_r0_11).mono hm1), r0_54, (by rw [em1]; exact e_r0_54), ((o_r0_11).mono hm1), r0_30, (by rw [em1]; exact e_r0_30), ?_⟩
    show G Γ m_MO_back (d + 1) (0, 0) Q 22 [.ref r0] [.ref r0_30, .ref r0_54] μ1
    refine g_invS (M' := m_MO_copy) (b1 := 0) (b2 := 0) (As := [.ref r0_54, .ref r0_30]) (st := []) lk_11_433 (by decide +kernel) rfl (dk_MO_copy d) (Nat.le_of_ble_eq_true rfl) h ?_
    rintro _ μ2 ⟨rfl, h⟩ hn2
    show G Γ m_MO_back (d + 1) (0, 0) Q 25 [.ref r0] [] μ2
    refine run_ok (pc' := 30) [(.aload_n 0, 0, 0, 0), (.iconst 0, 0, 0, 0), (.putfield 316, 11, 37, 0)] _ _ _ _ (by decide +kernel) ?_
    show _ ∧ (_)
    refine ⟨(((o_r0_11).mono hm1).mono hn2), ?_⟩
    show G Γ m_MO_back (d + 1) (0, 0) Q 30 [.ref r0] [] (sI μ2 r0 37 (w 0))
    obtain ⟨μ3, em3⟩ : ∃ m : XM, m = sI μ2 r0 37 (w 0) := ⟨_, rfl⟩
    replace h := h μ3 em3
    have hm3 : xN μ2 ≤ xN μ3 := by rw [em3]; exact Nat.le_refl _
    rw [← em3]
    obtain ⟨ea4, h⟩ := h
    obtain ⟨ib5, h⟩ := h
    refine run_ok (pc' := 37) [(.aload_n 0, 0, 0, 0), (.getfield 58, 11, 30, 2), (.bipush 41, 0, 0, 0), (.iaload, 0, 0, 0)] _ _ _ _ (by decide +kernel) ?_
    show _ ∧ (∃ _, _ ∧ (_ ∧ (_)))
    refine ⟨((((o_r0_11).mono hm1).mono hn2).mono hm3), r0_30, ea4, ib5, ?_⟩
    show G Γ m_MO_back (d + 1) (0, 0) Q 37 [.ref r0] [.int (xI μ3 r0_30 (w 41).toNatClampNeg)] μ3
    exact g_reti (by decide +kernel) rfl h
  · replace h := h.1 hc
    show G Γ m_MO_back (d + 1) (0, 0) Q 12 [.ref r0] [] μ1
    refine run_ok (pc' := 13) [(.iconst (-1), 0, 0, 0)] _ _ _ _ (by decide +kernel) ?_
    show G Γ m_MO_back (d + 1) (0, 0) Q 13 [.ref r0] [.int (w (-1))] μ1
    exact g_reti (by decide +kernel) rfl h
/-! FrostBoxModel count(I)I -/
set_option maxRecDepth 100000 in
theorem B_MO_count_0 {Γ : XG} {d : Nat} {Q : Option Value → XM → Prop} {r0 r0_30 : Nat} {x1 : Int32} {μ : XM} (o_r0_11 : ob μ r0 11) (e_r0_30 : xR μ r0 30 = some r0_30) (h : ∀ μ1, μ1 = sI μ r0 0 (w 0) → (((x1 < w 0 ∨ w 14 < x1) → Q (some (.int (w (-1000000)))) μ1) ∧ (x1 = w 0 → Q (some (.int (xI μ1 r0 25))) μ1) ∧ (x1 = w 1 → inb μ1 0 r0_30 (w 40) ∧ Q (some (.int (xI μ1 r0_30 (w 40).toNatClampNeg))) μ1) ∧ (x1 = w 2 → Q (some (.int (xI μ1 r0 7))) μ1) ∧ (x1 = w 3 → Q (some (.int (xI μ1 r0 28))) μ1) ∧ (x1 = w 4 → Q (some (.int (xI μ1 r0 6))) μ1) ∧ (x1 = w 5 → Q (some (.int (xI μ1 r0 32))) μ1) ∧ (x1 = w 6 → inb μ1 0 r0_30 (w 41) ∧ Q (some (.int (xI μ1 r0_30 (w 41).toNatClampNeg))) μ1) ∧ (x1 = w 7 → Call Γ m_MO_sumIn d [.ref r0, .ref r0_30] μ1 (KI (fun v4 μ4 => Q (some (.int v4)) μ4))) ∧ (x1 = w 8 → Call Γ m_MO_valueIn d [.ref r0, .ref r0_30] μ1 (KI (fun v5 μ5 => Q (some (.int v5)) μ5))) ∧ (x1 = w 9 → Q (some (.int (xI μ1 r0 33))) μ1) ∧ (x1 = w 10 → Q (some (.int (xI μ1 r0 43))) μ1) ∧ (x1 = w 11 → Q (some (.int (xI μ1 r0 50))) μ1) ∧ (x1 = w 12 → G Γ m_MO_count (d + 1) (0, 0) Q 158 [.ref r0, jk, .int (w 0), .int (w 0)] [] μ1) ∧ (x1 = w 13 → inb μ1 0 r0_30 (w 42) ∧ Q (some (.int (xI μ1 r0_30 (w 42).toNatClampNeg))) μ1) ∧ (x1 = w 14 → Q (some (.int (xI μ1 r0 37))) μ1))) : G Γ m_MO_count (d + 1) (0, 0) Q 0 [.ref r0, .int x1] [] μ := by
  refine run_ok (pc' := 5) [(.aload_n 0, 0, 0, 0), (.iconst 0, 0, 0, 0), (.putfield 109, 11, 0, 0)] _ _ _ _ (by decide +kernel) ?_
  show _ ∧ (_)
  refine ⟨o_r0_11, ?_⟩
  show G Γ m_MO_count (d + 1) (0, 0) Q 5 [.ref r0, .int x1] [] (sI μ r0 0 (w 0))
  obtain ⟨μ1, em1⟩ : ∃ m : XM, m = sI μ r0 0 (w 0) := ⟨_, rfl⟩
  replace h := h μ1 em1
  have hm1 : xN μ ≤ xN μ1 := by rw [em1]; exact Nat.le_refl _
  rw [← em1]
  refine run_ok (pc' := 6) [(.iload_n 1, 0, 0, 0)] _ _ _ _ (by decide +kernel) ?_
  show G Γ m_MO_count (d + 1) (0, 0) Q 6 [.ref r0, .int x1] [.int x1] μ1
  refine g_sw (df := 198) (lo := 0) (n := 15) (offs := #[74, 79, 87, 92, 97, 102, 107, 115, 124, 133, 138, 143, 148, 185, 193]) (len := 74) (by decide +kernel) (by decide) (pd := 204) (by decide) (fun hc => ?_) (fun k hk hc => ?_)
  · replace h := h.1 hc
    show G Γ m_MO_count (d + 1) (0, 0) Q 204 [.ref r0, .int x1] [] μ1
    refine run_ok (pc' := 207) [(.ldc_w 432, 0, 0, (-1000000))] _ _ _ _ (by decide +kernel) ?_
    show G Γ m_MO_count (d + 1) (0, 0) Q 207 [.ref r0, .int x1] [.int (w (-1000000))] μ1
    exact g_reti (by decide +kernel) rfl h
  · replace h := h.2
    match k, hk, hc with
    | 0, _, hc =>
      replace h := h.1 hc
      refine ⟨80, 74, rfl, by decide, ?_⟩
      show G Γ m_MO_count (d + 1) (0, 0) Q 80 [.ref r0, .int x1] [] μ1
      refine run_ok (pc' := 84) [(.aload_n 0, 0, 0, 0), (.getfield 307, 11, 25, 0)] _ _ _ _ (by decide +kernel) ?_
      show _ ∧ (_)
      refine ⟨((o_r0_11).mono hm1), ?_⟩
      show G Γ m_MO_count (d + 1) (0, 0) Q 84 [.ref r0, .int x1] [.int (xI μ1 r0 25)] μ1
      exact g_reti (by decide +kernel) rfl h
    | 1, _, hc =>
      replace h := h.2.1 hc
      refine ⟨85, 79, rfl, by decide, ?_⟩
      show G Γ m_MO_count (d + 1) (0, 0) Q 85 [.ref r0, .int x1] [] μ1
      obtain ⟨ib2, h⟩ := h
      refine run_ok (pc' := 92) [(.aload_n 0, 0, 0, 0), (.getfield 58, 11, 30, 2), (.bipush 40, 0, 0, 0), (.iaload, 0, 0, 0)] _ _ _ _ (by decide +kernel) ?_
      show _ ∧ (∃ _, _ ∧ (_ ∧ (_)))
      refine ⟨((o_r0_11).mono hm1), r0_30, (by rw [em1]; exact e_r0_30), ib2, ?_⟩
      show G Γ m_MO_count (d + 1) (0, 0) Q 92 [.ref r0, .int x1] [.int (xI μ1 r0_30 (w 40).toNatClampNeg)] μ1
      exact g_reti (by decide +kernel) rfl h
    | 2, _, hc =>
      replace h := h.2.2.1 hc
      refine ⟨93, 87, rfl, by decide, ?_⟩
      show G Γ m_MO_count (d + 1) (0, 0) Q 93 [.ref r0, .int x1] [] μ1
      refine run_ok (pc' := 97) [(.aload_n 0, 0, 0, 0), (.getfield 299, 11, 7, 0)] _ _ _ _ (by decide +kernel) ?_
      show _ ∧ (_)
      refine ⟨((o_r0_11).mono hm1), ?_⟩
      show G Γ m_MO_count (d + 1) (0, 0) Q 97 [.ref r0, .int x1] [.int (xI μ1 r0 7)] μ1
      exact g_reti (by decide +kernel) rfl h
    | 3, _, hc =>
      replace h := h.2.2.2.1 hc
      refine ⟨98, 92, rfl, by decide, ?_⟩
      show G Γ m_MO_count (d + 1) (0, 0) Q 98 [.ref r0, .int x1] [] μ1
      refine run_ok (pc' := 102) [(.aload_n 0, 0, 0, 0), (.getfield 302, 11, 28, 0)] _ _ _ _ (by decide +kernel) ?_
      show _ ∧ (_)
      refine ⟨((o_r0_11).mono hm1), ?_⟩
      show G Γ m_MO_count (d + 1) (0, 0) Q 102 [.ref r0, .int x1] [.int (xI μ1 r0 28)] μ1
      exact g_reti (by decide +kernel) rfl h
    | 4, _, hc =>
      replace h := h.2.2.2.2.1 hc
      refine ⟨103, 97, rfl, by decide, ?_⟩
      show G Γ m_MO_count (d + 1) (0, 0) Q 103 [.ref r0, .int x1] [] μ1
      refine run_ok (pc' := 107) [(.aload_n 0, 0, 0, 0), (.getfield 122, 11, 6, 0)] _ _ _ _ (by decide +kernel) ?_
      show _ ∧ (_)
      refine ⟨((o_r0_11).mono hm1), ?_⟩
      show G Γ m_MO_count (d + 1) (0, 0) Q 107 [.ref r0, .int x1] [.int (xI μ1 r0 6)] μ1
      exact g_reti (by decide +kernel) rfl h
    | 5, _, hc =>
      replace h := h.2.2.2.2.2.1 hc
      refine ⟨108, 102, rfl, by decide, ?_⟩
      show G Γ m_MO_count (d + 1) (0, 0) Q 108 [.ref r0, .int x1] [] μ1
      refine run_ok (pc' := 112) [(.aload_n 0, 0, 0, 0), (.getfield 64, 11, 32, 0)] _ _ _ _ (by decide +kernel) ?_
      show _ ∧ (_)
      refine ⟨((o_r0_11).mono hm1), ?_⟩
      show G Γ m_MO_count (d + 1) (0, 0) Q 112 [.ref r0, .int x1] [.int (xI μ1 r0 32)] μ1
      exact g_reti (by decide +kernel) rfl h
    | 6, _, hc =>
      replace h := h.2.2.2.2.2.2.1 hc
      refine ⟨113, 107, rfl, by decide, ?_⟩
      show G Γ m_MO_count (d + 1) (0, 0) Q 113 [.ref r0, .int x1] [] μ1
      obtain ⟨ib3, h⟩ := h
      refine run_ok (pc' := 120) [(.aload_n 0, 0, 0, 0), (.getfield 58, 11, 30, 2), (.bipush 41, 0, 0, 0), (.iaload, 0, 0, 0)] _ _ _ _ (by decide +kernel) ?_
      show _ ∧ (∃ _, _ ∧ (_ ∧ (_)))
      refine ⟨((o_r0_11).mono hm1), r0_30, (by rw [em1]; exact e_r0_30), ib3, ?_⟩
      show G Γ m_MO_count (d + 1) (0, 0) Q 120 [.ref r0, .int x1] [.int (xI μ1 r0_30 (w 41).toNatClampNeg)] μ1
      exact g_reti (by decide +kernel) rfl h
    | 7, _, hc =>
      replace h := h.2.2.2.2.2.2.2.1 hc
      refine ⟨121, 115, rfl, by decide, ?_⟩
      show G Γ m_MO_count (d + 1) (0, 0) Q 121 [.ref r0, .int x1] [] μ1
      refine run_ok (pc' := 126) [(.aload_n 0, 0, 0, 0), (.aload_n 0, 0, 0, 0), (.getfield 58, 11, 30, 2)] _ _ _ _ (by decide +kernel) ?_
      show _ ∧ (∃ _, _ ∧ (_))
      refine ⟨((o_r0_11).mono hm1), r0_30, (by rw [em1]; exact e_r0_30), ?_⟩
      show G Γ m_MO_count (d + 1) (0, 0) Q 126 [.ref r0, .int x1] [.ref r0_30, .ref r0] μ1
      refine g_invV (M' := m_MO_sumIn) (b1 := 0) (b2 := 0) (As := [.ref r0_30]) (a := r0) (st := []) lk_11_372 (by decide +kernel) rfl (dk_MO_sumIn d) (Nat.le_of_ble_eq_true rfl) (Or.inl ⟨11, ((o_r0_11).mono hm1), rfl⟩) h ?_
      rintro _ μ4 ⟨v4, rfl, h⟩ hn4
      show G Γ m_MO_count (d + 1) (0, 0) Q 129 [.ref r0, .int x1] [.int v4] μ4
      exact g_reti (by decide +kernel) rfl h
    | 8, _, hc =>
      replace h := h.2.2.2.2.2.2.2.2.1 hc
      refine ⟨130, 124, rfl, by decide, ?_⟩
      show G Γ m_MO_count (d + 1) (0, 0) Q 130 [.ref r0, .int x1] [] μ1
      refine run_ok (pc' := 135) [(.aload_n 0, 0, 0, 0), (.aload_n 0, 0, 0, 0), (.getfield 58, 11, 30, 2)] _ _ _ _ (by decide +kernel) ?_
      show _ ∧ (∃ _, _ ∧ (_))
      refine ⟨((o_r0_11).mono hm1), r0_30, (by rw [em1]; exact e_r0_30), ?_⟩
      show G Γ m_MO_count (d + 1) (0, 0) Q 135 [.ref r0, .int x1] [.ref r0_30, .ref r0] μ1
      refine g_invV (M' := m_MO_valueIn) (b1 := 0) (b2 := 0) (As := [.ref r0_30]) (a := r0) (st := []) lk_11_475 (by decide +kernel) rfl (dk_MO_valueIn d) (Nat.le_of_ble_eq_true rfl) (Or.inl ⟨11, ((o_r0_11).mono hm1), rfl⟩) h ?_
      rintro _ μ5 ⟨v5, rfl, h⟩ hn5
      show G Γ m_MO_count (d + 1) (0, 0) Q 138 [.ref r0, .int x1] [.int v5] μ5
      exact g_reti (by decide +kernel) rfl h
    | 9, _, hc =>
      replace h := h.2.2.2.2.2.2.2.2.2.1 hc
      refine ⟨139, 133, rfl, by decide, ?_⟩
      show G Γ m_MO_count (d + 1) (0, 0) Q 139 [.ref r0, .int x1] [] μ1
      refine run_ok (pc' := 143) [(.aload_n 0, 0, 0, 0), (.getfield 68, 11, 33, 0)] _ _ _ _ (by decide +kernel) ?_
      show _ ∧ (_)
      refine ⟨((o_r0_11).mono hm1), ?_⟩
      show G Γ m_MO_count (d + 1) (0, 0) Q 143 [.ref r0, .int x1] [.int (xI μ1 r0 33)] μ1
      exact g_reti (by decide +kernel) rfl h
    | 10, _, hc =>
      replace h := h.2.2.2.2.2.2.2.2.2.2.1 hc
      refine ⟨144, 138, rfl, by decide, ?_⟩
      show G Γ m_MO_count (d + 1) (0, 0) Q 144 [.ref r0, .int x1] [] μ1
      refine run_ok (pc' := 148) [(.aload_n 0, 0, 0, 0), (.getfield 310, 11, 43, 0)] _ _ _ _ (by decide +kernel) ?_
      show _ ∧ (_)
      refine ⟨((o_r0_11).mono hm1), ?_⟩
      show G Γ m_MO_count (d + 1) (0, 0) Q 148 [.ref r0, .int x1] [.int (xI μ1 r0 43)] μ1
      exact g_reti (by decide +kernel) rfl h
    | 11, _, hc =>
      replace h := h.2.2.2.2.2.2.2.2.2.2.2.1 hc
      refine ⟨149, 143, rfl, by decide, ?_⟩
      show G Γ m_MO_count (d + 1) (0, 0) Q 149 [.ref r0, .int x1] [] μ1
      refine run_ok (pc' := 153) [(.aload_n 0, 0, 0, 0), (.getfield 313, 11, 50, 0)] _ _ _ _ (by decide +kernel) ?_
      show _ ∧ (_)
      refine ⟨((o_r0_11).mono hm1), ?_⟩
      show G Γ m_MO_count (d + 1) (0, 0) Q 153 [.ref r0, .int x1] [.int (xI μ1 r0 50)] μ1
      exact g_reti (by decide +kernel) rfl h
    | 12, _, hc =>
      replace h := h.2.2.2.2.2.2.2.2.2.2.2.2.1 hc
      refine ⟨154, 148, rfl, by decide, ?_⟩
      show G Γ m_MO_count (d + 1) (0, 0) Q 154 [.ref r0, .int x1] [] μ1
      refine run_ok (pc' := 158) [(.iconst 0, 0, 0, 0), (.istore_n 2, 0, 0, 0), (.iconst 0, 0, 0, 0), (.istore_n 3, 0, 0, 0)] _ _ _ _ (by decide +kernel) ?_
      show G Γ m_MO_count (d + 1) (0, 0) Q 158 [.ref r0, .int x1, .int (w 0), .int (w 0)] [] μ1
      exact g_wk (ls' := [.ref r0, jk, .int (w 0), .int (w 0)]) ⟨Or.inr rfl, Or.inl rfl, Or.inr rfl, Or.inr rfl, trivial⟩ h
    | 13, _, hc =>
      replace h := h.2.2.2.2.2.2.2.2.2.2.2.2.2.1 hc
      refine ⟨191, 185, rfl, by decide, ?_⟩
      show G Γ m_MO_count (d + 1) (0, 0) Q 191 [.ref r0, .int x1] [] μ1
      obtain ⟨ib6, h⟩ := h
      refine run_ok (pc' := 198) [(.aload_n 0, 0, 0, 0), (.getfield 58, 11, 30, 2), (.bipush 42, 0, 0, 0), (.iaload, 0, 0, 0)] _ _ _ _ (by decide +kernel) ?_
      show _ ∧ (∃ _, _ ∧ (_ ∧ (_)))
      refine ⟨((o_r0_11).mono hm1), r0_30, (by rw [em1]; exact e_r0_30), ib6, ?_⟩
      show G Γ m_MO_count (d + 1) (0, 0) Q 198 [.ref r0, .int x1] [.int (xI μ1 r0_30 (w 42).toNatClampNeg)] μ1
      exact g_reti (by decide +kernel) rfl h
    | 14, _, hc =>
      replace h := h.2.2.2.2.2.2.2.2.2.2.2.2.2.2 hc
      refine ⟨199, 193, rfl, by decide, ?_⟩
      show G Γ m_MO_count (d + 1) (0, 0) Q 199 [.ref r0, .int x1] [] μ1
      refine run_ok (pc' := 203) [(.aload_n 0, 0, 0, 0), (.getfield 316, 11, 37, 0)] _ _ _ _ (by decide +kernel) ?_
      show _ ∧ (_)
      refine ⟨((o_r0_11).mono hm1), ?_⟩
      show G Γ m_MO_count (d + 1) (0, 0) Q 203 [.ref r0, .int x1] [.int (xI μ1 r0 37)] μ1
      exact g_reti (by decide +kernel) rfl h
    | k + 15, hk, _ => exact absurd hk (by omega)
set_option maxRecDepth 100000 in
theorem B_MO_count_158 {Γ : XG} {d : Nat} {Q : Option Value → XM → Prop} {r0 r0_30 : Nat} {x2 x3 : Int32} {μ : XM} (o_r0_11 : ob μ r0 11) (e_r0_30 : xR μ r0 30 = some r0_30) (h : inb μ 0 r0_30 (w 42) ∧ ((x3 < xI μ r0_30 (w 42).toNatClampNeg → inb μ 0 r0_30 ((w 46) + ((w 4) * x3)) ∧ G Γ m_MO_count (d + 1) (0, 0) Q 158 [.ref r0, jk, .int (x2 + (xI μ r0_30 ((w 46) + ((w 4) * x3)).toNatClampNeg)), .int (x3 + w 1)] [] μ) ∧ (¬ x3 < xI μ r0_30 (w 42).toNatClampNeg → Q (some (.int x2)) μ))) : G Γ m_MO_count (d + 1) (0, 0) Q 158 [.ref r0, jk, .int x2, .int x3] [] μ := by
  obtain ⟨ib1, h⟩ := h
  refine run_ok (pc' := 166) [(.iload_n 3, 0, 0, 0), (.aload_n 0, 0, 0, 0), (.getfield 58, 11, 30, 2), (.bipush 42, 0, 0, 0), (.iaload, 0, 0, 0)] _ _ _ _ (by decide +kernel) ?_
  show _ ∧ (∃ _, _ ∧ (_ ∧ (_)))
  refine ⟨o_r0_11, r0_30, e_r0_30, ib1, ?_⟩
  show G Γ m_MO_count (d + 1) (0, 0) Q 166 [.ref r0, jk, .int x2, .int x3] [.int (xI μ r0_30 (w 42).toNatClampNeg), .int x3] μ
  refine g_icmp_ge (pc' := 189) (off := 23) (by decide) (by decide +kernel) (fun hc => ?_) (fun hc => ?_)
  · replace h := h.2 hc
    show G Γ m_MO_count (d + 1) (0, 0) Q 189 [.ref r0, jk, .int x2, .int x3] [] μ
    refine run_ok (pc' := 190) [(.iload_n 2, 0, 0, 0)] _ _ _ _ (by decide +kernel) ?_
    show G Γ m_MO_count (d + 1) (0, 0) Q 190 [.ref r0, jk, .int x2, .int x3] [.int x2] μ
    exact g_reti (by decide +kernel) rfl h
  · replace h := h.1 hc
    show G Γ m_MO_count (d + 1) (0, 0) Q 169 [.ref r0, jk, .int x2, .int x3] [] μ
    obtain ⟨ib2, h⟩ := h
    refine run_ok (pc' := 158) [(.iload_n 2, 0, 0, 0), (.aload_n 0, 0, 0, 0), (.getfield 58, 11, 30, 2), (.bipush 46, 0, 0, 0), (.iconst 4, 0, 0, 0), (.iload_n 3, 0, 0, 0), (.imul, 0, 0, 0), (.iadd, 0, 0, 0), (.iaload, 0, 0, 0), (.iadd, 0, 0, 0), (.istore_n 2, 0, 0, 0), (.iinc 3 1, 0, 0, 0), (.goto (-28), 0, 0, 0)] _ _ _ _ (by decide +kernel) ?_
    show _ ∧ (∃ _, _ ∧ (_ ∧ (_)))
    refine ⟨o_r0_11, r0_30, e_r0_30, ib2, ?_⟩
    show G Γ m_MO_count (d + 1) (0, 0) Q 158 [.ref r0, jk, .int (x2 + (xI μ r0_30 ((w 46) + ((w 4) * x3)).toNatClampNeg)), .int (x3 + w 1)] [] μ
    exact h
