/-! FrostBoxModel mostOf(II)I -/
set_option maxRecDepth 100000 in
theorem B_MO_mostOf_0 {Γ : XG} {d : Nat} {Q : Option Value → XM → Prop} {x0 x1 : Int32} {μ : XM}  (h : ((x0 = w 115 → ((x1 = w 1 → Q (some (.int (w 24))) μ) ∧ (¬ x1 = w 1 → ((x1 = w 3 → Q (some (.int (w 5))) μ) ∧ (¬ x1 = w 3 → Q (some (.int (w 99))) μ))))) ∧ (¬ x0 = w 115 → ((x0 = w 98 → ((x1 = w 0 → Q (some (.int (w 5))) μ) ∧ (¬ x1 = w 0 → ((x1 = w 1 → Q (some (.int (w 9))) μ) ∧ (¬ x1 = w 1 → ((x1 = w 2 → Q (some (.int (w 99))) μ) ∧ (¬ x1 = w 2 → Q (some (.int (w 1))) μ))))))) ∧ (¬ x0 = w 98 → ((x1 = w 0 → Q (some (.int (w 5))) μ) ∧ (¬ x1 = w 0 → ((x1 = w 2 → Q (some (.int (w 36))) μ) ∧ (¬ x1 = w 2 → ((x1 = w 4 → Q (some (.int (w 6))) μ) ∧ (¬ x1 = w 4 → Q (some (.int (w 9))) μ))))))))))) : G Γ m_MO_mostOf (d + 1) (0, 0) Q 0 [.int x0, .int x1] [] μ := by
  refine run_ok (pc' := 3) [(.iload_n 0, 0, 0, 0), (.bipush 115, 0, 0, 0)] _ _ _ _ (by decide +kernel) ?_
  show G Γ m_MO_mostOf (d + 1) (0, 0) Q 3 [.int x0, .int x1] [.int (w 115), .int x0] μ
  refine g_icmp_ne (pc' := 28) (off := 25) (by decide) (by decide +kernel) (fun hc => ?_) (fun hc => ?_)
  · replace h := h.2 hc
    show G Γ m_MO_mostOf (d + 1) (0, 0) Q 28 [.int x0, .int x1] [] μ
    refine run_ok (pc' := 31) [(.iload_n 0, 0, 0, 0), (.bipush 98, 0, 0, 0)] _ _ _ _ (by decide +kernel) ?_
    show G Γ m_MO_mostOf (d + 1) (0, 0) Q 31 [.int x0, .int x1] [.int (w 98), .int x0] μ
    refine g_icmp_ne (pc' := 64) (off := 33) (by decide) (by decide +kernel) (fun hc => ?_) (fun hc => ?_)
    · replace h := h.2 hc
      show G Γ m_MO_mostOf (d + 1) (0, 0) Q 64 [.int x0, .int x1] [] μ
      refine run_ok (pc' := 65) [(.iload_n 1, 0, 0, 0)] _ _ _ _ (by decide +kernel) ?_
      show G Γ m_MO_mostOf (d + 1) (0, 0) Q 65 [.int x0, .int x1] [.int x1] μ
      refine g_ifz_ne (pc' := 72) (off := 7) (by decide) (by decide +kernel) (fun hc => ?_) (fun hc => ?_)
      · replace h := h.2 hc
        show G Γ m_MO_mostOf (d + 1) (0, 0) Q 72 [.int x0, .int x1] [] μ
        refine run_ok (pc' := 74) [(.iload_n 1, 0, 0, 0), (.iconst 2, 0, 0, 0)] _ _ _ _ (by decide +kernel) ?_
        show G Γ m_MO_mostOf (d + 1) (0, 0) Q 74 [.int x0, .int x1] [.int (w 2), .int x1] μ
        refine g_icmp_ne (pc' := 82) (off := 8) (by decide) (by decide +kernel) (fun hc => ?_) (fun hc => ?_)
        · replace h := h.2 hc
          show G Γ m_MO_mostOf (d + 1) (0, 0) Q 82 [.int x0, .int x1] [] μ
          refine run_ok (pc' := 84) [(.iload_n 1, 0, 0, 0), (.iconst 4, 0, 0, 0)] _ _ _ _ (by decide +kernel) ?_
          show G Γ m_MO_mostOf (d + 1) (0, 0) Q 84 [.int x0, .int x1] [.int (w 4), .int x1] μ
          refine g_icmp_ne (pc' := 92) (off := 8) (by decide) (by decide +kernel) (fun hc => ?_) (fun hc => ?_)
          · replace h := h.2 hc
            show G Γ m_MO_mostOf (d + 1) (0, 0) Q 92 [.int x0, .int x1] [] μ
            refine run_ok (pc' := 94) [(.bipush 9, 0, 0, 0)] _ _ _ _ (by decide +kernel) ?_
            show G Γ m_MO_mostOf (d + 1) (0, 0) Q 94 [.int x0, .int x1] [.int (w 9)] μ
            exact g_reti (by decide +kernel) rfl h
          · replace h := h.1 hc
            show G Γ m_MO_mostOf (d + 1) (0, 0) Q 87 [.int x0, .int x1] [] μ
            refine run_ok (pc' := 94) [(.bipush 6, 0, 0, 0), (.goto 5, 0, 0, 0)] _ _ _ _ (by decide +kernel) ?_
            show G Γ m_MO_mostOf (d + 1) (0, 0) Q 94 [.int x0, .int x1] [.int (w 6)] μ
            exact g_reti (by decide +kernel) rfl h
        · replace h := h.1 hc
          show G Γ m_MO_mostOf (d + 1) (0, 0) Q 77 [.int x0, .int x1] [] μ
          refine run_ok (pc' := 94) [(.bipush 36, 0, 0, 0), (.goto 15, 0, 0, 0)] _ _ _ _ (by decide +kernel) ?_
          show G Γ m_MO_mostOf (d + 1) (0, 0) Q 94 [.int x0, .int x1] [.int (w 36)] μ
          exact g_reti (by decide +kernel) rfl h
      · replace h := h.1 hc
        show G Γ m_MO_mostOf (d + 1) (0, 0) Q 68 [.int x0, .int x1] [] μ
        refine run_ok (pc' := 94) [(.iconst 5, 0, 0, 0), (.goto 25, 0, 0, 0)] _ _ _ _ (by decide +kernel) ?_
        show G Γ m_MO_mostOf (d + 1) (0, 0) Q 94 [.int x0, .int x1] [.int (w 5)] μ
        exact g_reti (by decide +kernel) rfl h
    · replace h := h.1 hc
      show G Γ m_MO_mostOf (d + 1) (0, 0) Q 34 [.int x0, .int x1] [] μ
      refine run_ok (pc' := 35) [(.iload_n 1, 0, 0, 0)] _ _ _ _ (by decide +kernel) ?_
      show G Γ m_MO_mostOf (d + 1) (0, 0) Q 35 [.int x0, .int x1] [.int x1] μ
      refine g_ifz_ne (pc' := 42) (off := 7) (by decide) (by decide +kernel) (fun hc => ?_) (fun hc => ?_)
      · replace h := h.2 hc
        show G Γ m_MO_mostOf (d + 1) (0, 0) Q 42 [.int x0, .int x1] [] μ
        refine run_ok (pc' := 44) [(.iload_n 1, 0, 0, 0), (.iconst 1, 0, 0, 0)] _ _ _ _ (by decide +kernel) ?_
        show G Γ m_MO_mostOf (d + 1) (0, 0) Q 44 [.int x0, .int x1] [.int (w 1), .int x1] μ
        refine g_icmp_ne (pc' := 52) (off := 8) (by decide) (by decide +kernel) (fun hc => ?_) (fun hc => ?_)
        · replace h := h.2 hc
          show G Γ m_MO_mostOf (d + 1) (0, 0) Q 52 [.int x0, .int x1] [] μ
          refine run_ok (pc' := 54) [(.iload_n 1, 0, 0, 0), (.iconst 2, 0, 0, 0)] _ _ _ _ (by decide +kernel) ?_
          show G Γ m_MO_mostOf (d + 1) (0, 0) Q 54 [.int x0, .int x1] [.int (w 2), .int x1] μ
          refine g_icmp_ne (pc' := 62) (off := 8) (by decide) (by decide +kernel) (fun hc => ?_) (fun hc => ?_)
          · replace h := h.2 hc
            show G Γ m_MO_mostOf (d + 1) (0, 0) Q 62 [.int x0, .int x1] [] μ
            refine run_ok (pc' := 63) [(.iconst 1, 0, 0, 0)] _ _ _ _ (by decide +kernel) ?_
            show G Γ m_MO_mostOf (d + 1) (0, 0) Q 63 [.int x0, .int x1] [.int (w 1)] μ
            exact g_reti (by decide +kernel) rfl h
          · replace h := h.1 hc
            show G Γ m_MO_mostOf (d + 1) (0, 0) Q 57 [.int x0, .int x1] [] μ
            refine run_ok (pc' := 63) [(.bipush 99, 0, 0, 0), (.goto 4, 0, 0, 0)] _ _ _ _ (by decide +kernel) ?_
            show G Γ m_MO_mostOf (d + 1) (0, 0) Q 63 [.int x0, .int x1] [.int (w 99)] μ
            exact g_reti (by decide +kernel) rfl h
        · replace h := h.1 hc
          show G Γ m_MO_mostOf (d + 1) (0, 0) Q 47 [.int x0, .int x1] [] μ
          refine run_ok (pc' := 63) [(.bipush 9, 0, 0, 0), (.goto 14, 0, 0, 0)] _ _ _ _ (by decide +kernel) ?_
          show G Γ m_MO_mostOf (d + 1) (0, 0) Q 63 [.int x0, .int x1] [.int (w 9)] μ
          exact g_reti (by decide +kernel) rfl h
      · replace h := h.1 hc
        show G Γ m_MO_mostOf (d + 1) (0, 0) Q 38 [.int x0, .int x1] [] μ
        refine run_ok (pc' := 63) [(.iconst 5, 0, 0, 0), (.goto 24, 0, 0, 0)] _ _ _ _ (by decide +kernel) ?_
        show G Γ m_MO_mostOf (d + 1) (0, 0) Q 63 [.int x0, .int x1] [.int (w 5)] μ
        exact g_reti (by decide +kernel) rfl h
  · replace h := h.1 hc
    show G Γ m_MO_mostOf (d + 1) (0, 0) Q 6 [.int x0, .int x1] [] μ
    refine run_ok (pc' := 8) [(.iload_n 1, 0, 0, 0), (.iconst 1, 0, 0, 0)] _ _ _ _ (by decide +kernel) ?_
    show G Γ m_MO_mostOf (d + 1) (0, 0) Q 8 [.int x0, .int x1] [.int (w 1), .int x1] μ
    refine g_icmp_ne (pc' := 16) (off := 8) (by decide) (by decide +kernel) (fun hc => ?_) (fun hc => ?_)
    · replace h := h.2 hc
      show G Γ m_MO_mostOf (d + 1) (0, 0) Q 16 [.int x0, .int x1] [] μ
      refine run_ok (pc' := 18) [(.iload_n 1, 0, 0, 0), (.iconst 3, 0, 0, 0)] _ _ _ _ (by decide +kernel) ?_
      show G Γ m_MO_mostOf (d + 1) (0, 0) Q 18 [.int x0, .int x1] [.int (w 3), .int x1] μ
      refine g_icmp_ne (pc' := 25) (off := 7) (by decide) (by decide +kernel) (fun hc => ?_) (fun hc => ?_)
      · replace h := h.2 hc
        show G Γ m_MO_mostOf (d + 1) (0, 0) Q 25 [.int x0, .int x1] [] μ
        refine run_ok (pc' := 27) [(.bipush 99, 0, 0, 0)] _ _ _ _ (by decide +kernel) ?_
        show G Γ m_MO_mostOf (d + 1) (0, 0) Q 27 [.int x0, .int x1] [.int (w 99)] μ
        exact g_reti (by decide +kernel) rfl h
      · replace h := h.1 hc
        show G Γ m_MO_mostOf (d + 1) (0, 0) Q 21 [.int x0, .int x1] [] μ
        refine run_ok (pc' := 27) [(.iconst 5, 0, 0, 0), (.goto 5, 0, 0, 0)] _ _ _ _ (by decide +kernel) ?_
        show G Γ m_MO_mostOf (d + 1) (0, 0) Q 27 [.int x0, .int x1] [.int (w 5)] μ
        exact g_reti (by decide +kernel) rfl h
    · replace h := h.1 hc
      show G Γ m_MO_mostOf (d + 1) (0, 0) Q 11 [.int x0, .int x1] [] μ
      refine run_ok (pc' := 27) [(.bipush 24, 0, 0, 0), (.goto 14, 0, 0, 0)] _ _ _ _ (by decide +kernel) ?_
      show G Γ m_MO_mostOf (d + 1) (0, 0) Q 27 [.int x0, .int x1] [.int (w 24)] μ
      exact g_reti (by decide +kernel) rfl h
/-! FrostBoxModel leastOf(II)I -/
set_option maxRecDepth 100000 in
theorem B_MO_leastOf_0 {Γ : XG} {d : Nat} {Q : Option Value → XM → Prop} {x0 x1 : Int32} {μ : XM}  (h : ((x0 = w 115 → ((x1 = w 0 → Q (some (.int (w 1))) μ) ∧ (¬ x1 = w 0 → ((x1 = w 2 → Q (some (.int (w 1))) μ) ∧ (¬ x1 = w 2 → Q (some (.int (w 0))) μ))))) ∧ (¬ x0 = w 115 → ((x1 = w 1 → Q (some (.int (w 1))) μ) ∧ (¬ x1 = w 1 → ((x0 = w 107 → ((x1 = w 2 → Q (some (.int (w 1))) μ) ∧ (¬ x1 = w 2 → Q (some (.int (w 0))) μ))) ∧ (¬ x0 = w 107 → Q (some (.int (w 0))) μ))))))) : G Γ m_MO_leastOf (d + 1) (0, 0) Q 0 [.int x0, .int x1] [] μ := by
  refine run_ok (pc' := 3) [(.iload_n 0, 0, 0, 0), (.bipush 115, 0, 0, 0)] _ _ _ _ (by decide +kernel) ?_
  show G Γ m_MO_leastOf (d + 1) (0, 0) Q 3 [.int x0, .int x1] [.int (w 115), .int x0] μ
  refine g_icmp_ne (pc' := 21) (off := 18) (by decide) (by decide +kernel) (fun hc => ?_) (fun hc => ?_)
  · replace h := h.2 hc
    show G Γ m_MO_leastOf (d + 1) (0, 0) Q 21 [.int x0, .int x1] [] μ
    refine run_ok (pc' := 23) [(.iload_n 1, 0, 0, 0), (.iconst 1, 0, 0, 0)] _ _ _ _ (by decide +kernel) ?_
    show G Γ m_MO_leastOf (d + 1) (0, 0) Q 23 [.int x0, .int x1] [.int (w 1), .int x1] μ
    refine g_icmp_eq (pc' := 37) (off := 14) (by decide) (by decide +kernel) (fun hc => ?_) (fun hc => ?_)
    · replace h := h.1 hc
      show G Γ m_MO_leastOf (d + 1) (0, 0) Q 37 [.int x0, .int x1] [] μ
      refine run_ok (pc' := 42) [(.iconst 1, 0, 0, 0), (.goto 4, 0, 0, 0)] _ _ _ _ (by decide +kernel) ?_
      show G Γ m_MO_leastOf (d + 1) (0, 0) Q 42 [.int x0, .int x1] [.int (w 1)] μ
      exact g_reti (by decide +kernel) rfl h
    · replace h := h.2 hc
      show G Γ m_MO_leastOf (d + 1) (0, 0) Q 26 [.int x0, .int x1] [] μ
      refine run_ok (pc' := 29) [(.iload_n 0, 0, 0, 0), (.bipush 107, 0, 0, 0)] _ _ _ _ (by decide +kernel) ?_
      show G Γ m_MO_leastOf (d + 1) (0, 0) Q 29 [.int x0, .int x1] [.int (w 107), .int x0] μ
      refine g_icmp_ne (pc' := 41) (off := 12) (by decide) (by decide +kernel) (fun hc => ?_) (fun hc => ?_)
      · replace h := h.2 hc
        show G Γ m_MO_leastOf (d + 1) (0, 0) Q 41 [.int x0, .int x1] [] μ
        refine run_ok (pc' := 42) [(.iconst 0, 0, 0, 0)] _ _ _ _ (by decide +kernel) ?_
        show G Γ m_MO_leastOf (d + 1) (0, 0) Q 42 [.int x0, .int x1] [.int (w 0)] μ
        exact g_reti (by decide +kernel) rfl h
      · replace h := h.1 hc
        show G Γ m_MO_leastOf (d + 1) (0, 0) Q 32 [.int x0, .int x1] [] μ
        refine run_ok (pc' := 34) [(.iload_n 1, 0, 0, 0), (.iconst 2, 0, 0, 0)] _ _ _ _ (by decide +kernel) ?_
        show G Γ m_MO_leastOf (d + 1) (0, 0) Q 34 [.int x0, .int x1] [.int (w 2), .int x1] μ
        refine g_icmp_ne (pc' := 41) (off := 7) (by decide) (by decide +kernel) (fun hc => ?_) (fun hc => ?_)
        · replace h := h.2 hc
          show G Γ m_MO_leastOf (d + 1) (0, 0) Q 41 [.int x0, .int x1] [] μ
          refine run_ok (pc' := 42) [(.iconst 0, 0, 0, 0)] _ _ _ _ (by decide +kernel) ?_
          show G Γ m_MO_leastOf (d + 1) (0, 0) Q 42 [.int x0, .int x1] [.int (w 0)] μ
          exact g_reti (by decide +kernel) rfl h
        · replace h := h.1 hc
          show G Γ m_MO_leastOf (d + 1) (0, 0) Q 37 [.int x0, .int x1] [] μ
          refine run_ok (pc' := 42) [(.iconst 1, 0, 0, 0), (.goto 4, 0, 0, 0)] _ _ _ _ (by decide +kernel) ?_
          show G Γ m_MO_leastOf (d + 1) (0, 0) Q 42 [.int x0, .int x1] [.int (w 1)] μ
          exact g_reti (by decide +kernel) rfl h
  · replace h := h.1 hc
    show G Γ m_MO_leastOf (d + 1) (0, 0) Q 6 [.int x0, .int x1] [] μ
    refine run_ok (pc' := 7) [(.iload_n 1, 0, 0, 0)] _ _ _ _ (by decide +kernel) ?_
    show G Γ m_MO_leastOf (d + 1) (0, 0) Q 7 [.int x0, .int x1] [.int x1] μ
    refine g_ifz_eq (pc' := 15) (off := 8) (by decide) (by decide +kernel) (fun hc => ?_) (fun hc => ?_)
    · replace h := h.1 hc
      show G Γ m_MO_leastOf (d + 1) (0, 0) Q 15 [.int x0, .int x1] [] μ
      refine run_ok (pc' := 20) [(.iconst 1, 0, 0, 0), (.goto 4, 0, 0, 0)] _ _ _ _ (by decide +kernel) ?_
      show G Γ m_MO_leastOf (d + 1) (0, 0) Q 20 [.int x0, .int x1] [.int (w 1)] μ
      exact g_reti (by decide +kernel) rfl h
    · replace h := h.2 hc
      show G Γ m_MO_leastOf (d + 1) (0, 0) Q 10 [.int x0, .int x1] [] μ
      refine run_ok (pc' := 12) [(.iload_n 1, 0, 0, 0), (.iconst 2, 0, 0, 0)] _ _ _ _ (by decide +kernel) ?_
      show G Γ m_MO_leastOf (d + 1) (0, 0) Q 12 [.int x0, .int x1] [.int (w 2), .int x1] μ
      refine g_icmp_ne (pc' := 19) (off := 7) (by decide) (by decide +kernel) (fun hc => ?_) (fun hc => ?_)
      · replace h := h.2 hc
        show G Γ m_MO_leastOf (d + 1) (0, 0) Q 19 [.int x0, .int x1] [] μ
        refine run_ok (pc' := 20) [(.iconst 0, 0, 0, 0)] _ _ _ _ (by decide +kernel) ?_
        show G Γ m_MO_leastOf (d + 1) (0, 0) Q 20 [.int x0, .int x1] [.int (w 0)] μ
        exact g_reti (by decide +kernel) rfl h
      · replace h := h.1 hc
        show G Γ m_MO_leastOf (d + 1) (0, 0) Q 15 [.int x0, .int x1] [] μ
        refine run_ok (pc' := 20) [(.iconst 1, 0, 0, 0), (.goto 4, 0, 0, 0)] _ _ _ _ (by decide +kernel) ?_
        show G Γ m_MO_leastOf (d + 1) (0, 0) Q 20 [.int x0, .int x1] [.int (w 1)] μ
        exact g_reti (by decide +kernel) rfl h
/-! FrostBoxModel usual(II)I -/
set_option maxRecDepth 100000 in
theorem B_MO_usual_0 {Γ : XG} {d : Nat} {Q : Option Value → XM → Prop} {x0 x1 : Int32} {μ : XM}  (h : ((x0 = w 115 → ((x1 = w 0 → Q (some (.int (w 40))) μ) ∧ (¬ x1 = w 0 → ((x1 = w 1 → Q (some (.int (w 9))) μ) ∧ (¬ x1 = w 1 → ((x1 = w 2 → Q (some (.int (w 6))) μ) ∧ (¬ x1 = w 2 → Q (some (.int (w 1))) μ))))))) ∧ (¬ x0 = w 115 → ((x0 = w 98 → ((x1 = w 1 → Q (some (.int (w 2))) μ) ∧ (¬ x1 = w 1 → Q (some (.int (w 0))) μ))) ∧ (¬ x0 = w 98 → (((x1 < w 0 ∨ w 4 < x1) → Q (some (.int (w 3))) μ) ∧ (x1 = w 0 → Q (some (.int (w 0))) μ) ∧ (x1 = w 1 → Q (some (.int (w 3))) μ) ∧ (x1 = w 2 → Q (some (.int (w 12))) μ) ∧ (x1 = w 3 → Q (some (.int (w 3))) μ) ∧ (x1 = w 4 → Q (some (.int (w 6))) μ))))))) : G Γ m_MO_usual (d + 1) (0, 0) Q 0 [.int x0, .int x1] [] μ := by
  refine run_ok (pc' := 3) [(.iload_n 0, 0, 0, 0), (.bipush 115, 0, 0, 0)] _ _ _ _ (by decide +kernel) ?_
  show G Γ m_MO_usual (d + 1) (0, 0) Q 3 [.int x0, .int x1] [.int (w 115), .int x0] μ
  refine g_icmp_ne (pc' := 37) (off := 34) (by decide) (by decide +kernel) (fun hc => ?_) (fun hc => ?_)
  · replace h := h.2 hc
    show G Γ m_MO_usual (d + 1) (0, 0) Q 37 [.int x0, .int x1] [] μ
    refine run_ok (pc' := 40) [(.iload_n 0, 0, 0, 0), (.bipush 98, 0, 0, 0)] _ _ _ _ (by decide +kernel) ?_
    show G Γ m_MO_usual (d + 1) (0, 0) Q 40 [.int x0, .int x1] [.int (w 98), .int x0] μ
    refine g_icmp_ne (pc' := 54) (off := 14) (by decide) (by decide +kernel) (fun hc => ?_) (fun hc => ?_)
    · replace h := h.2 hc
      show G Γ m_MO_usual (d + 1) (0, 0) Q 54 [.int x0, .int x1] [] μ
      refine run_ok (pc' := 55) [(.iload_n 1, 0, 0, 0)] _ _ _ _ (by decide +kernel) ?_
      show G Γ m_MO_usual (d + 1) (0, 0) Q 55 [.int x0, .int x1] [.int x1] μ
      refine g_sw (df := 41) (lo := 0) (n := 5) (offs := #[33, 41, 35, 41, 38]) (len := 33) (by decide +kernel) (by decide) (pd := 96) (by decide) (fun hc => ?_) (fun k hk hc => ?_)
      · replace h := h.1 hc
        show G Γ m_MO_usual (d + 1) (0, 0) Q 96 [.int x0, .int x1] [] μ
        refine run_ok (pc' := 97) [(.iconst 3, 0, 0, 0)] _ _ _ _ (by decide +kernel) ?_
        show G Γ m_MO_usual (d + 1) (0, 0) Q 97 [.int x0, .int x1] [.int (w 3)] μ
        exact g_reti (by decide +kernel) rfl h
      · replace h := h.2
        match k, hk, hc with
        | 0, _, hc =>
          replace h := h.1 hc
          refine ⟨88, 33, rfl, by decide, ?_⟩
          show G Γ m_MO_usual (d + 1) (0, 0) Q 88 [.int x0, .int x1] [] μ
          refine run_ok (pc' := 89) [(.iconst 0, 0, 0, 0)] _ _ _ _ (by decide +kernel) ?_
          show G Γ m_MO_usual (d + 1) (0, 0) Q 89 [.int x0, .int x1] [.int (w 0)] μ
          exact g_reti (by decide +kernel) rfl h
        | 1, _, hc =>
          replace h := h.2.1 hc
          refine ⟨96, 41, rfl, by decide, ?_⟩
          show G Γ m_MO_usual (d + 1) (0, 0) Q 96 [.int x0, .int x1] [] μ
          refine run_ok (pc' := 97) [(.iconst 3, 0, 0, 0)] _ _ _ _ (by decide +kernel) ?_
          show G Γ m_MO_usual (d + 1) (0, 0) Q 97 [.int x0, .int x1] [.int (w 3)] μ
          exact g_reti (by decide +kernel) rfl h
        | 2, _, hc =>
          replace h := h.2.2.1 hc
          refine ⟨90, 35, rfl, by decide, ?_⟩
          show G Γ m_MO_usual (d + 1) (0, 0) Q 90 [.int x0, .int x1] [] μ
          refine run_ok (pc' := 92) [(.bipush 12, 0, 0, 0)] _ _ _ _ (by decide +kernel) ?_
          show G Γ m_MO_usual (d + 1) (0, 0) Q 92 [.int x0, .int x1] [.int (w 12)] μ
          exact g_reti (by decide +kernel) rfl h
        | 3, _, hc =>
          replace h := h.2.2.2.1 hc
          refine ⟨96, 41, rfl, by decide, ?_⟩
          show G Γ m_MO_usual (d + 1) (0, 0) Q 96 [.int x0, .int x1] [] μ
          refine run_ok (pc' := 97) [(.iconst 3, 0, 0, 0)] _ _ _ _ (by decide +kernel) ?_
          show G Γ m_MO_usual (d + 1) (0, 0) Q 97 [.int x0, .int x1] [.int (w 3)] μ
          exact g_reti (by decide +kernel) rfl h
        | 4, _, hc =>
          replace h := h.2.2.2.2 hc
          refine ⟨93, 38, rfl, by decide, ?_⟩
          show G Γ m_MO_usual (d + 1) (0, 0) Q 93 [.int x0, .int x1] [] μ
          refine run_ok (pc' := 95) [(.bipush 6, 0, 0, 0)] _ _ _ _ (by decide +kernel) ?_
          show G Γ m_MO_usual (d + 1) (0, 0) Q 95 [.int x0, .int x1] [.int (w 6)] μ
          exact g_reti (by decide +kernel) rfl h
        | k + 5, hk, _ => exact absurd hk (by omega)
    · replace h := h.1 hc
      show G Γ m_MO_usual (d + 1) (0, 0) Q 43 [.int x0, .int x1] [] μ
      refine run_ok (pc' := 45) [(.iload_n 1, 0, 0, 0), (.iconst 1, 0, 0, 0)] _ _ _ _ (by decide +kernel) ?_
      show G Γ m_MO_usual (d + 1) (0, 0) Q 45 [.int x0, .int x1] [.int (w 1), .int x1] μ
      refine g_icmp_ne (pc' := 52) (off := 7) (by decide) (by decide +kernel) (fun hc => ?_) (fun hc => ?_)
      · replace h := h.2 hc
        show G Γ m_MO_usual (d + 1) (0, 0) Q 52 [.int x0, .int x1] [] μ
        refine run_ok (pc' := 53) [(.iconst 0, 0, 0, 0)] _ _ _ _ (by decide +kernel) ?_
        show G Γ m_MO_usual (d + 1) (0, 0) Q 53 [.int x0, .int x1] [.int (w 0)] μ
        exact g_reti (by decide +kernel) rfl h
      · replace h := h.1 hc
        show G Γ m_MO_usual (d + 1) (0, 0) Q 48 [.int x0, .int x1] [] μ
        refine run_ok (pc' := 53) [(.iconst 2, 0, 0, 0), (.goto 4, 0, 0, 0)] _ _ _ _ (by decide +kernel) ?_
        show G Γ m_MO_usual (d + 1) (0, 0) Q 53 [.int x0, .int x1] [.int (w 2)] μ
        exact g_reti (by decide +kernel) rfl h
  · replace h := h.1 hc
    show G Γ m_MO_usual (d + 1) (0, 0) Q 6 [.int x0, .int x1] [] μ
    refine run_ok (pc' := 7) [(.iload_n 1, 0, 0, 0)] _ _ _ _ (by decide +kernel) ?_
    show G Γ m_MO_usual (d + 1) (0, 0) Q 7 [.int x0, .int x1] [.int x1] μ
    refine g_ifz_ne (pc' := 15) (off := 8) (by decide) (by decide +kernel) (fun hc => ?_) (fun hc => ?_)
    · replace h := h.2 hc
      show G Γ m_MO_usual (d + 1) (0, 0) Q 15 [.int x0, .int x1] [] μ
      refine run_ok (pc' := 17) [(.iload_n 1, 0, 0, 0), (.iconst 1, 0, 0, 0)] _ _ _ _ (by decide +kernel) ?_
      show G Γ m_MO_usual (d + 1) (0, 0) Q 17 [.int x0, .int x1] [.int (w 1), .int x1] μ
      refine g_icmp_ne (pc' := 25) (off := 8) (by decide) (by decide +kernel) (fun hc => ?_) (fun hc => ?_)
      · replace h := h.2 hc
        show G Γ m_MO_usual (d + 1) (0, 0) Q 25 [.int x0, .int x1] [] μ
        refine run_ok (pc' := 27) [(.iload_n 1, 0, 0, 0), (.iconst 2, 0, 0, 0)] _ _ _ _ (by decide +kernel) ?_
        show G Γ m_MO_usual (d + 1) (0, 0) Q 27 [.int x0, .int x1] [.int (w 2), .int x1] μ
        refine g_icmp_ne (pc' := 35) (off := 8) (by decide) (by decide +kernel) (fun hc => ?_) (fun hc => ?_)
        · replace h := h.2 hc
          show G Γ m_MO_usual (d + 1) (0, 0) Q 35 [.int x0, .int x1] [] μ
          refine run_ok (pc' := 36) [(.iconst 1, 0, 0, 0)] _ _ _ _ (by decide +kernel) ?_
          show G Γ m_MO_usual (d + 1) (0, 0) Q 36 [.int x0, .int x1] [.int (w 1)] μ
          exact g_reti (by decide +kernel) rfl h
        · replace h := h.1 hc
          show G Γ m_MO_usual (d + 1) (0, 0) Q 30 [.int x0, .int x1] [] μ
          refine run_ok (pc' := 36) [(.bipush 6, 0, 0, 0), (.goto 4, 0, 0, 0)] _ _ _ _ (by decide +kernel) ?_
          show G Γ m_MO_usual (d + 1) (0, 0) Q 36 [.int x0, .int x1] [.int (w 6)] μ
          exact g_reti (by decide +kernel) rfl h
      · replace h := h.1 hc
        show G Γ m_MO_usual (d + 1) (0, 0) Q 20 [.int x0, .int x1] [] μ
        refine run_ok (pc' := 36) [(.bipush 9, 0, 0, 0), (.goto 14, 0, 0, 0)] _ _ _ _ (by decide +kernel) ?_
        show G Γ m_MO_usual (d + 1) (0, 0) Q 36 [.int x0, .int x1] [.int (w 9)] μ
        exact g_reti (by decide +kernel) rfl h
    · replace h := h.1 hc
      show G Γ m_MO_usual (d + 1) (0, 0) Q 10 [.int x0, .int x1] [] μ
      refine run_ok (pc' := 36) [(.bipush 40, 0, 0, 0), (.goto 24, 0, 0, 0)] _ _ _ _ (by decide +kernel) ?_
      show G Γ m_MO_usual (d + 1) (0, 0) Q 36 [.int x0, .int x1] [.int (w 40)] μ
      exact g_reti (by decide +kernel) rfl h
/-! FrostBoxModel readItems(I[IILjava/lang/String;)V -/
set_option maxRecDepth 100000 in
theorem lk_11_238 : LkS 11 238 m_MO_spotOf 2 := ⟨lc_MO_spotOf, lwG_in (List.mem_of_getElem? (i := 1442) rfl) rfl, lwG_in (List.mem_of_getElem? (i := 1443) rfl) rfl⟩
set_option maxRecDepth 100000 in
theorem lk_11_234 : LkS 11 234 m_MO_usual 2 := ⟨lc_MO_usual, lwG_in (List.mem_of_getElem? (i := 1412) rfl) rfl, lwG_in (List.mem_of_getElem? (i := 1413) rfl) rfl⟩
set_option maxRecDepth 100000 in
theorem lk_11_252 : LkV 11 252 m_MO_number 2 := ⟨lc_MO_number, lwG_in (List.mem_of_getElem? (i := 1492) rfl) rfl, lwG_in (List.mem_of_getElem? (i := 1494) rfl) rfl, lwG_in (List.mem_of_getElem? (i := 57) rfl) rfl⟩
set_option maxRecDepth 100000 in
theorem lk_11_249 : LkS 11 249 m_MO_mostOf 2 := ⟨lc_MO_mostOf, lwG_in (List.mem_of_getElem? (i := 1489) rfl) rfl, lwG_in (List.mem_of_getElem? (i := 1490) rfl) rfl⟩
set_option maxRecDepth 100000 in
theorem lk_11_246 : LkS 11 246 m_MO_leastOf 2 := ⟨lc_MO_leastOf, lwG_in (List.mem_of_getElem? (i := 1486) rfl) rfl, lwG_in (List.mem_of_getElem? (i := 1487) rfl) rfl⟩
set_option maxRecDepth 100000 in
theorem lk_11_242 : LkS 11 242 m_MO_has 2 := ⟨lc_MO_has, lwG_in (List.mem_of_getElem? (i := 1483) rfl) rfl, lwG_in (List.mem_of_getElem? (i := 1484) rfl) rfl⟩
set_option maxRecDepth 100000 in
theorem B_MO_readItems_0 {Γ : XG} {d : Nat} {Q : Option Value → XM → Prop} {r0 r2 r4 : Nat} {x1 x3 : Int32} {μ : XM}  (h : G Γ m_MO_readItems (d + 1) (0, 0) Q 3 [.ref r0, .int x1, .ref r2, .int x3, .ref r4, .int (w 0)] [] μ) : G Γ m_MO_readItems (d + 1) (0, 0) Q 0 [.ref r0, .int x1, .ref r2, .int x3, .ref r4] [] μ := by
  refine run_ok (pc' := 3) [(.iconst 0, 0, 0, 0), (.istore 5, 0, 0, 0)] _ _ _ _ (by decide +kernel) ?_
  show G Γ m_MO_readItems (d + 1) (0, 0) Q 3 [.ref r0, .int x1, .ref r2, .int x3, .ref r4, .int (w 0)] [] μ
  exact h
set_option maxRecDepth 100000 in
theorem B_MO_readItems_3 {Γ : XG} {d : Nat} {Q : Option Value → XM → Prop} {r0 r2 r4 : Nat} {x1 x3 x5 : Int32} {μ : XM} (o_r0_11 : ob μ r0 11) (h : rcS r4 ∧ Call Γ m_St_length d [.ref r4] μ (KI (fun v1 μ1 => ((x5 < v1 → Call Γ m_MO_usual d [.int x1, .int x5] μ1 (KI (fun v5 μ5 => inS μ5 0 r2 (x3 + x5) ∧ ∀ μ7, μ7 = sI μ5 r2 (x3 + x5).toNatClampNeg v5 → G Γ m_MO_readItems (d + 1) (0, 0) Q 3 [.ref r0, .int x1, .ref r2, .int x3, .ref r4, .int (x5 + w 1)] [] μ7))) ∧ (¬ x5 < v1 → Call Γ m_MO_look d [.ref r0] μ1 (KI (fun v3 μ3 => Call Γ m_MO_spotOf d [.ref r4, .int v3] μ3 (KI (fun v4 μ4 => G Γ m_MO_readItems (d + 1) (0, 0) Q 45 [.ref r0, .int x1, .ref r2, .int x3, .ref r4, .int (w 0), .int v4] [] μ4))))))))) : G Γ m_MO_readItems (d + 1) (0, 0) Q 3 [.ref r0, .int x1, .ref r2, .int x3, .ref r4, .int x5] [] μ := by
  refine run_ok (pc' := 7) [(.iload 5, 0, 0, 0), (.aload 4, 0, 0, 0)] _ _ _ _ (by decide +kernel) ?_
  show G Γ m_MO_readItems (d + 1) (0, 0) Q 7 [.ref r0, .int x1, .ref r2, .int x3, .ref r4, .int x5] [.ref r4, .int x5] μ
  obtain ⟨sr2, h⟩ := h
  refine g_invV (M' := m_St_length) (b1 := 0) (b2 := 0) (As := []) (a := r4) (st := [.int x5]) lk_11_112 (by decide +kernel) rfl (dk_St_length d) (Nat.le_of_ble_eq_true rfl) (rcS_ok sr2 rfl) h ?_
  rintro _ μ1 ⟨v1, rfl, h⟩ hn1
  show G Γ m_MO_readItems (d + 1) (0, 0) Q 10 [.ref r0, .int x1, .ref r2, .int x3, .ref r4, .int x5] [.int v1, .int x5] μ1
  refine g_icmp_ge (pc' := 31) (off := 21) (by decide) (by decide +kernel) (fun hc => ?_) (fun hc => ?_)
  · replace h := h.2 hc
    show G Γ m_MO_readItems (d + 1) (0, 0) Q 31 [.ref r0, .int x1, .ref r2, .int x3, .ref r4, .int x5] [] μ1
    refine run_ok (pc' := 37) [(.iconst 0, 0, 0, 0), (.istore 5, 0, 0, 0), (.aload 4, 0, 0, 0), (.aload_n 0, 0, 0, 0)] _ _ _ _ (by decide +kernel) ?_
    show G Γ m_MO_readItems (d + 1) (0, 0) Q 37 [.ref r0, .int x1, .ref r2, .int x3, .ref r4, .int (w 0)] [.ref r0, .ref r4] μ1
    refine g_invV (M' := m_MO_look) (b1 := 0) (b2 := 0) (As := []) (a := r0) (st := [.ref r4]) lk_11_151 (by decide +kernel) rfl (dk_MO_look d) (Nat.le_of_ble_eq_true rfl) (Or.inl ⟨11, ((o_r0_11).mono hn1), rfl⟩) h ?_
    rintro _ μ3 ⟨v3, rfl, h⟩ hn3
    show G Γ m_MO_readItems (d + 1) (0, 0) Q 40 [.ref r0, .int x1, .ref r2, .int x3, .ref r4, .int (w 0)] [.int v3, .ref r4] μ3
    refine g_invS (M' := m_MO_spotOf) (b1 := 0) (b2 := 0) (As := [.ref r4, .int v3]) (st := []) lk_11_238 (by decide +kernel) rfl (dk_MO_spotOf d) (Nat.le_of_ble_eq_true rfl) h ?_
    rintro _ μ4 ⟨v4, rfl, h⟩ hn4
    show G Γ m_MO_readItems (d + 1) (0, 0) Q 43 [.ref r0, .int x1, .ref r2, .int x3, .ref r4, .int (w 0)] [.int v4] μ4
    refine run_ok (pc' := 45) [(.istore 6, 0, 0, 0)] _ _ _ _ (by decide +kernel) ?_
    show G Γ m_MO_readItems (d + 1) (0, 0) Q 45 [.ref r0, .int x1, .ref r2, .int x3, .ref r4, .int (w 0), .int v4] [] μ4
    exact h
  · replace h := h.1 hc
    show G Γ m_MO_readItems (d + 1) (0, 0) Q 13 [.ref r0, .int x1, .ref r2, .int x3, .ref r4, .int x5] [] μ1
    refine run_ok (pc' := 21) [(.aload_n 2, 0, 0, 0), (.iload_n 3, 0, 0, 0), (.iload 5, 0, 0, 0), (.iadd, 0, 0, 0), (.iload_n 1, 0, 0, 0), (.iload 5, 0, 0, 0)] _ _ _ _ (by decide +kernel) ?_
    show G Γ m_MO_readItems (d + 1) (0, 0) Q 21 [.ref r0, .int x1, .ref r2, .int x3, .ref r4, .int x5] [.int x5, .int x1, .int (x3 + x5), .ref r2] μ1
    refine g_invS (M' := m_MO_usual) (b1 := 0) (b2 := 0) (As := [.int x1, .int x5]) (st := [.int (x3 + x5), .ref r2]) lk_11_234 (by decide +kernel) rfl (dk_MO_usual d) (Nat.le_of_ble_eq_true rfl) h ?_
    rintro _ μ5 ⟨v5, rfl, h⟩ hn5
    show G Γ m_MO_readItems (d + 1) (0, 0) Q 24 [.ref r0, .int x1, .ref r2, .int x3, .ref r4, .int x5] [.int v5, .int (x3 + x5), .ref r2] μ5
    obtain ⟨is6, h⟩ := h
    refine run_ok (pc' := 25) [(.iastore, 0, 0, 0)] _ _ _ _ (by decide +kernel) ?_
    show _ ∧ (_)
    refine ⟨is6, ?_⟩
    show G Γ m_MO_readItems (d + 1) (0, 0) Q 25 [.ref r0, .int x1, .ref r2, .int x3, .ref r4, .int x5] [] (sI μ5 r2 (x3 + x5).toNatClampNeg v5)
    obtain ⟨μ7, em7⟩ : ∃ m : XM, m = sI μ5 r2 (x3 + x5).toNatClampNeg v5 := ⟨_, rfl⟩
    replace h := h μ7 em7
    have hm7 : xN μ5 ≤ xN μ7 := by rw [em7]; exact Nat.le_refl _
    rw [← em7]
    refine run_ok (pc' := 3) [(.iinc 5 1, 0, 0, 0), (.goto (-25), 0, 0, 0)] _ _ _ _ (by decide +kernel) ?_
    show G Γ m_MO_readItems (d + 1) (0, 0) Q 3 [.ref r0, .int x1, .ref r2, .int x3, .ref r4, .int (x5 + w 1)] [] μ7
    exact h
set_option maxRecDepth 100000 in
theorem B_MO_readItems_45 {Γ : XG} {d : Nat} {Q : Option Value → XM → Prop} {r0 r2 r4 : Nat} {x1 x3 x5 x6 : Int32} {μ : XM} (o_r0_11 : ob μ r0 11) (h : ((x6 = w (-1) → Q none μ) ∧ (¬ x6 = w (-1) → ((xI μ r0 11 = w (-1) → Call Γ m_MO_has d [.int x5, .int x6] μ (KI (fun v1 μ1 => ((v1 = w 0 → ∀ μ2, μ2 = sI μ1 r0 10 ((xI μ1 r0 10) + (w 1)) → Call Γ m_MO_leastOf d [.int x1, .int x6] μ2 (KI (fun v3 μ3 => Call Γ m_MO_mostOf d [.int x1, .int x6] μ3 (KI (fun v4 μ4 => Call Γ m_MO_number d [.ref r0, .int v3, .int v4] μ4 (KI (fun v5 μ5 => inS μ5 0 r2 (x3 + x6) ∧ ∀ μ7, μ7 = sI μ5 r2 (x3 + x6).toNatClampNeg v5 → ((xI μ7 r0 11 = w (-1) → Call Γ m_MO_look d [.ref r0] μ7 (KI (fun v8 μ8 => Call Γ m_MO_spotOf d [.ref r4, .int v8] μ8 (KI (fun v9 μ9 => G Γ m_MO_readItems (d + 1) (0, 0) Q 45 [.ref r0, .int x1, .ref r2, .int x3, .ref r4, .int (x5 ||| ((w 1) <<< (x6 &&& 31))), .int v9] [] μ9))))) ∧ (¬ xI μ7 r0 11 = w (-1) → G Γ m_MO_readItems (d + 1) (0, 0) Q 45 [.ref r0, .int x1, .ref r2, .int x3, .ref r4, .int (x5 ||| ((w 1) <<< (x6 &&& 31))), .int x6] [] μ7))))))))) ∧ (¬ v1 = w 0 → Call Γ m_MO_fails d [.ref r0] μ1 (KI (fun v10 μ10 => Q none μ10))))))) ∧ (¬ xI μ r0 11 = w (-1) → Q none μ))))) : G Γ m_MO_readItems (d + 1) (0, 0) Q 45 [.ref r0, .int x1, .ref r2, .int x3, .ref r4, .int x5, .int x6] [] μ := by
  refine run_ok (pc' := 48) [(.iload 6, 0, 0, 0), (.iconst (-1), 0, 0, 0)] _ _ _ _ (by decide +kernel) ?_
  show G Γ m_MO_readItems (d + 1) (0, 0) Q 48 [.ref r0, .int x1, .ref r2, .int x3, .ref r4, .int x5, .int x6] [.int (w (-1)), .int x6] μ
  refine g_icmp_eq (pc' := 138) (off := 90) (by decide) (by decide +kernel) (fun hc => ?_) (fun hc => ?_)
  · replace h := h.1 hc
    show G Γ m_MO_readItems (d + 1) (0, 0) Q 138 [.ref r0, .int x1, .ref r2, .int x3, .ref r4, .int x5, .int x6] [] μ
    exact g_retv (by decide +kernel) rfl h
  · replace h := h.2 hc
    show G Γ m_MO_readItems (d + 1) (0, 0) Q 51 [.ref r0, .int x1, .ref r2, .int x3, .ref r4, .int x5, .int x6] [] μ
    refine run_ok (pc' := 56) [(.aload_n 0, 0, 0, 0), (.getfield 141, 11, 11, 0), (.iconst (-1), 0, 0, 0)] _ _ _ _ (by decide +kernel) ?_
    show _ ∧ (_)
    refine ⟨o_r0_11, ?_⟩
    show G Γ m_MO_readItems (d + 1) (0, 0) Q 56 [.ref r0, .int x1, .ref r2, .int x3, .ref r4, .int x5, .int x6] [.int (w (-1)), .int (xI μ r0 11)] μ
    refine g_icmp_ne (pc' := 138) (off := 82) (by decide) (by decide +kernel) (fun hc => ?_) (fun hc => ?_)
    · replace h := h.2 hc
      show G Γ m_MO_readItems (d + 1) (0, 0) Q 138 [.ref r0, .int x1, .ref r2, .int x3, .ref r4, .int x5, .int x6] [] μ
      exact g_retv (by decide +kernel) rfl h
    · replace h := h.1 hc
      show G Γ m_MO_readItems (d + 1) (0, 0) Q 59 [.ref r0, .int x1, .ref r2, .int x3, .ref r4, .int x5, .int x6] [] μ
      refine run_ok (pc' := 63) [(.iload 5, 0, 0, 0), (.iload 6, 0, 0, 0)] _ _ _ _ (by decide +kernel) ?_
      show G Γ m_MO_readItems (d + 1) (0, 0) Q 63 [.ref r0, .int x1, .ref r2, .int x3, .ref r4, .int x5, .int x6] [.int x6, .int x5] μ
      refine g_invS (M' := m_MO_has) (b1 := 0) (b2 := 0) (As := [.int x5, .int x6]) (st := []) lk_11_242 (by decide +kernel) rfl (dk_MO_has d) (Nat.le_of_ble_eq_true rfl) h ?_
      rintro _ μ1 ⟨v1, rfl, h⟩ hn1
      show G Γ m_MO_readItems (d + 1) (0, 0) Q 66 [.ref r0, .int x1, .ref r2, .int x3, .ref r4, .int x5, .int x6] [.int v1] μ1
      refine g_ifz_eq (pc' := 75) (off := 9) (by decide) (by decide +kernel) (fun hc => ?_) (fun hc => ?_)
      · replace h := h.1 hc
        show G Γ m_MO_readItems (d + 1) (0, 0) Q 75 [.ref r0, .int x1, .ref r2, .int x3, .ref r4, .int x5, .int x6] [] μ1
        refine run_ok (pc' := 94) [(.iload 5, 0, 0, 0), (.iconst 1, 0, 0, 0), (.iload 6, 0, 0, 0), (.ishl, 0, 0, 0), (.ior, 0, 0, 0), (.istore 5, 0, 0, 0), (.aload_n 0, 0, 0, 0), (.dup, 0, 0, 0), (.getfield 132, 11, 10, 0), (.iconst 1, 0, 0, 0), (.iadd, 0, 0, 0), (.putfield 132, 11, 10, 0)] _ _ _ _ (by decide +kernel) ?_
        show _ ∧ (_ ∧ (_))
        refine ⟨((o_r0_11).mono hn1), ((o_r0_11).mono hn1), ?_⟩
        show G Γ m_MO_readItems (d + 1) (0, 0) Q 94 [.ref r0, .int x1, .ref r2, .int x3, .ref r4, .int (x5 ||| ((w 1) <<< (x6 &&& 31))), .int x6] [] (sI μ1 r0 10 ((xI μ1 r0 10) + (w 1)))
        obtain ⟨μ2, em2⟩ : ∃ m : XM, m = sI μ1 r0 10 ((xI μ1 r0 10) + (w 1)) := ⟨_, rfl⟩
        replace h := h μ2 em2
        have hm2 : xN μ1 ≤ xN μ2 := by rw [em2]; exact Nat.le_refl _
        rw [← em2]
        refine run_ok (pc' := 103) [(.aload_n 2, 0, 0, 0), (.iload_n 3, 0, 0, 0), (.iload 6, 0, 0, 0), (.iadd, 0, 0, 0), (.aload_n 0, 0, 0, 0), (.iload_n 1, 0, 0, 0), (.iload 6, 0, 0, 0)] _ _ _ _ (by decide +kernel) ?_
        show G Γ m_MO_readItems (d + 1) (0, 0) Q 103 [.ref r0, .int x1, .ref r2, .int x3, .ref r4, .int (x5 ||| ((w 1) <<< (x6 &&& 31))), .int x6] [.int x6, .int x1, .ref r0, .int (x3 + x6), .ref r2] μ2
        refine g_invS (M' := m_MO_leastOf) (b1 := 0) (b2 := 0) (As := [.int x1, .int x6]) (st := [.ref r0, .int (x3 + x6), .ref r2]) lk_11_246 (by decide +kernel) rfl (dk_MO_leastOf d) (Nat.le_of_ble_eq_true rfl) h ?_
        rintro _ μ3 ⟨v3, rfl, h⟩ hn3
        show G Γ m_MO_readItems (d + 1) (0, 0) Q 106 [.ref r0, .int x1, .ref r2, .int x3, .ref r4, .int (x5 ||| ((w 1) <<< (x6 &&& 31))), .int x6] [.int v3, .ref r0, .int (x3 + x6), .ref r2] μ3
        refine run_ok (pc' := 109) [(.iload_n 1, 0, 0, 0), (.iload 6, 0, 0, 0)] _ _ _ _ (by decide +kernel) ?_
        show G Γ m_MO_readItems (d + 1) (0, 0) Q 109 [.ref r0, .int x1, .ref r2, .int x3, .ref r4, .int (x5 ||| ((w 1) <<< (x6 &&& 31))), .int x6] [.int x6, .int x1, .int v3, .ref r0, .int (x3 + x6), .ref r2] μ3
        refine g_invS (M' := m_MO_mostOf) (b1 := 0) (b2 := 0) (As := [.int x1, .int x6]) (st := [.int v3, .ref r0, .int (x3 + x6), .ref r2]) lk_11_249 (by decide +kernel) rfl (dk_MO_mostOf d) (Nat.le_of_ble_eq_true rfl) h ?_
        rintro _ μ4 ⟨v4, rfl, h⟩ hn4
        show G Γ m_MO_readItems (d + 1) (0, 0) Q 112 [.ref r0, .int x1, .ref r2, .int x3, .ref r4, .int (x5 ||| ((w 1) <<< (x6 &&& 31))), .int x6] [.int v4, .int v3, .ref r0, .int (x3 + x6), .ref r2] μ4
        refine g_invV (M' := m_MO_number) (b1 := 0) (b2 := 0) (As := [.int v3, .int v4]) (a := r0) (st := [.int (x3 + x6), .ref r2]) lk_11_252 (by decide +kernel) rfl (dk_MO_number d) (Nat.le_of_ble_eq_true rfl) (Or.inl ⟨11, (((((o_r0_11).mono hn1).mono hm2).mono hn3).mono hn4), rfl⟩) h ?_
        rintro _ μ5 ⟨v5, rfl, h⟩ hn5
        show G Γ m_MO_readItems (d + 1) (0, 0) Q 115 [.ref r0, .int x1, .ref r2, .int x3, .ref r4, .int (x5 ||| ((w 1) <<< (x6 &&& 31))), .int x6] [.int v5, .int (x3 + x6), .ref r2] μ5
        obtain ⟨is6, h⟩ := h
        refine run_ok (pc' := 116) [(.iastore, 0, 0, 0)] _ _ _ _ (by decide +kernel) ?_
        show _ ∧ (_)
        refine ⟨is6, ?_⟩
        show G Γ m_MO_readItems (d + 1) (0, 0) Q 116 [.ref r0, .int x1, .ref r2, .int x3, .ref r4, .int (x5 ||| ((w 1) <<< (x6 &&& 31))), .int x6] [] (sI μ5 r2 (x3 + x6).toNatClampNeg v5)
        obtain ⟨μ7, em7⟩ : ∃ m : XM, m = sI μ5 r2 (x3 + x6).toNatClampNeg v5 := ⟨_, rfl⟩
        replace h := h μ7 em7
        have hm7 : xN μ5 ≤ xN μ7 := by rw [em7]; exact Nat.le_refl _
        rw [← em7]
        refine run_ok (pc' := 121) [(.aload_n 0, 0, 0, 0), (.getfield 141, 11, 11, 0), (.iconst (-1), 0, 0, 0)] _ _ _ _ (by decide +kernel) ?_
        show _ ∧ (_)
        refine ⟨(((((((o_r0_11).mono hn1).mono hm2).mono hn3).mono hn4).mono hn5).mono hm7), ?_⟩
        show G Γ m_MO_readItems (d + 1) (0, 0) Q 121 [.ref r0, .int x1, .ref r2, .int x3, .ref r4, .int (x5 ||| ((w 1) <<< (x6 &&& 31))), .int x6] [.int (w (-1)), .int (xI μ7 r0 11)] μ7
        refine g_icmp_ne (pc' := 45) (off := (-76)) (by decide) (by decide +kernel) (fun hc => ?_) (fun hc => ?_)
        · replace h := h.2 hc
          show G Γ m_MO_readItems (d + 1) (0, 0) Q 45 [.ref r0, .int x1, .ref r2, .int x3, .ref r4, .int (x5 ||| ((w 1) <<< (x6 &&& 31))), .int x6] [] μ7
          exact h
        · replace h := h.1 hc
          show G Γ m_MO_readItems (d + 1) (0, 0) Q 124 [.ref r0, .int x1, .ref r2, .int x3, .ref r4, .int (x5 ||| ((w 1) <<< (x6 &&& 31))), .int x6] [] μ7
          refine run_ok (pc' := 127) [(.aload 4, 0, 0, 0), (.aload_n 0, 0, 0, 0)] _ _ _ _ (by decide +kernel) ?_
          show G Γ m_MO_readItems (d + 1) (0, 0) Q 127 [.ref r0, .int x1, .ref r2, .int x3, .ref r4, .int (x5 ||| ((w 1) <<< (x6 &&& 31))), .int x6] [.ref r0, .ref r4] μ7
          refine g_invV (M' := m_MO_look) (b1 := 0) (b2 := 0) (As := []) (a := r0) (st := [.ref r4]) lk_11_151 (by decide +kernel) rfl (dk_MO_look d) (Nat.le_of_ble_eq_true rfl) (Or.inl ⟨11, (((((((o_r0_11).mono hn1).mono hm2).mono hn3).mono hn4).mono hn5).mono hm7), rfl⟩) h ?_
          rintro _ μ8 ⟨v8, rfl, h⟩ hn8
          show G Γ m_MO_readItems (d + 1) (0, 0) Q 130 [.ref r0, .int x1, .ref r2, .int x3, .ref r4, .int (x5 ||| ((w 1) <<< (x6 &&& 31))), .int x6] [.int v8, .ref r4] μ8
          refine g_invS (M' := m_MO_spotOf) (b1 := 0) (b2 := 0) (As := [.ref r4, .int v8]) (st := []) lk_11_238 (by decide +kernel) rfl (dk_MO_spotOf d) (Nat.le_of_ble_eq_true rfl) h ?_
          rintro _ μ9 ⟨v9, rfl, h⟩ hn9
          show G Γ m_MO_readItems (d + 1) (0, 0) Q 133 [.ref r0, .int x1, .ref r2, .int x3, .ref r4, .int (x5 ||| ((w 1) <<< (x6 &&& 31))), .int x6] [.int v9] μ9
          refine run_ok (pc' := 45) [(.istore 6, 0, 0, 0), (.goto (-90), 0, 0, 0)] _ _ _ _ (by decide +kernel) ?_
          show G Γ m_MO_readItems (d + 1) (0, 0) Q 45 [.ref r0, .int x1, .ref r2, .int x3, .ref r4, .int (x5 ||| ((w 1) <<< (x6 &&& 31))), .int v9] [] μ9
          exact h
      · replace h := h.2 hc
        show G Γ m_MO_readItems (d + 1) (0, 0) Q 69 [.ref r0, .int x1, .ref r2, .int x3, .ref r4, .int x5, .int x6] [] μ1
        refine run_ok (pc' := 70) [(.aload_n 0, 0, 0, 0)] _ _ _ _ (by decide +kernel) ?_
        show G Γ m_MO_readItems (d + 1) (0, 0) Q 70 [.ref r0, .int x1, .ref r2, .int x3, .ref r4, .int x5, .int x6] [.ref r0] μ1
        refine g_invV (M' := m_MO_fails) (b1 := 0) (b2 := 0) (As := []) (a := r0) (st := []) lk_11_147 (by decide +kernel) rfl (dk_MO_fails d) (Nat.le_of_ble_eq_true rfl) (Or.inl ⟨11, ((o_r0_11).mono hn1), rfl⟩) h ?_
        rintro _ μ10 ⟨v10, rfl, h⟩ hn10
        show G Γ m_MO_readItems (d + 1) (0, 0) Q 73 [.ref r0, .int x1, .ref r2, .int x3, .ref r4, .int x5, .int x6] [.int v10] μ10
        refine run_ok (pc' := 74) [(.pop, 0, 0, 0)] _ _ _ _ (by decide +kernel) ?_
        show G Γ m_MO_readItems (d + 1) (0, 0) Q 74 [.ref r0, .int x1, .ref r2, .int x3, .ref r4, .int x5, .int x6] [] μ10
        exact g_retv (by decide +kernel) rfl h
/-! FrostBoxModel readClause()V -/
set_option maxRecDepth 100000 in
theorem lk_11_266 : LkV 11 266 m_MO_readItems 4 := ⟨lc_MO_readItems, lwG_in (List.mem_of_getElem? (i := 1428) rfl) rfl, lwG_in (List.mem_of_getElem? (i := 1430) rfl) rfl, lwG_in (List.mem_of_getElem? (i := 56) rfl) rfl⟩
set_option maxRecDepth 100000 in
theorem B_MO_readClause_0 {Γ : XG} {d : Nat} {Q : Option Value → XM → Prop} {r0 : Nat} {μ : XM} (o_r0_11 : ob μ r0 11) (h : Call Γ m_MO_look d [.ref r0] μ (KI (fun v1 μ1 => ((v1 = w 115 → ((xI μ1 r0 29 = w 0 → G Γ m_MO_readClause (d + 1) (0, 0) Q 48 [.ref r0, .int v1] [] μ1) ∧ (¬ xI μ1 r0 29 = w 0 → G Γ m_MO_readClause (d + 1) (0, 0) Q 18 [.ref r0, .int v1] [] μ1))) ∧ (¬ v1 = w 115 → G Γ m_MO_readClause (d + 1) (0, 0) Q 18 [.ref r0, .int v1] [] μ1))))) : G Γ m_MO_readClause (d + 1) (0, 0) Q 0 [.ref r0] [] μ := by
  refine run_ok (pc' := 1) [(.aload_n 0, 0, 0, 0)] _ _ _ _ (by decide +kernel) ?_
  show G Γ m_MO_readClause (d + 1) (0, 0) Q 1 [.ref r0] [.ref r0] μ
  refine g_invV (M' := m_MO_look) (b1 := 0) (b2 := 0) (As := []) (a := r0) (st := []) lk_11_151 (by decide +kernel) rfl (dk_MO_look d) (Nat.le_of_ble_eq_true rfl) (Or.inl ⟨11, o_r0_11, rfl⟩) h ?_
  rintro _ μ1 ⟨v1, rfl, h⟩ hn1
  show G Γ m_MO_readClause (d + 1) (0, 0) Q 4 [.ref r0] [.int v1] μ1
  refine run_ok (pc' := 8) [(.istore_n 1, 0, 0, 0), (.iload_n 1, 0, 0, 0), (.bipush 115, 0, 0, 0)] _ _ _ _ (by decide +kernel) ?_
  show G Γ m_MO_readClause (d + 1) (0, 0) Q 8 [.ref r0, .int v1] [.int (w 115), .int v1] μ1
  refine g_icmp_ne (pc' := 18) (off := 10) (by decide) (by decide +kernel) (fun hc => ?_) (fun hc => ?_)
  · replace h := h.2 hc
    show G Γ m_MO_readClause (d + 1) (0, 0) Q 18 [.ref r0, .int v1] [] μ1
    exact h
  · replace h := h.1 hc
    show G Γ m_MO_readClause (d + 1) (0, 0) Q 11 [.ref r0, .int v1] [] μ1
    refine run_ok (pc' := 15) [(.aload_n 0, 0, 0, 0), (.getfield 255, 11, 29, 0)] _ _ _ _ (by decide +kernel) ?_
    show _ ∧ (_)
    refine ⟨((o_r0_11).mono hn1), ?_⟩
    show G Γ m_MO_readClause (d + 1) (0, 0) Q 15 [.ref r0, .int v1] [.int (xI μ1 r0 29)] μ1
    refine g_ifz_eq (pc' := 48) (off := 33) (by decide) (by decide +kernel) (fun hc => ?_) (fun hc => ?_)
    · replace h := h.1 hc
      show G Γ m_MO_readClause (d + 1) (0, 0) Q 48 [.ref r0, .int v1] [] μ1
      exact h
    · replace h := h.2 hc
      show G Γ m_MO_readClause (d + 1) (0, 0) Q 18 [.ref r0, .int v1] [] μ1
      exact h
set_option maxRecDepth 100000 in
theorem B_MO_readClause_18 {Γ : XG} {d : Nat} {Q : Option Value → XM → Prop} {r0 : Nat} {x1 : Int32} {μ : XM} (o_r0_11 : ob μ r0 11) (h : ((x1 = w 107 → ((xI μ r0 26 < w 6 → G Γ m_MO_readClause (d + 1) (0, 0) Q 48 [.ref r0, .int x1] [] μ) ∧ (¬ xI μ r0 26 < w 6 → G Γ m_MO_readClause (d + 1) (0, 0) Q 33 [.ref r0, .int x1] [] μ))) ∧ (¬ x1 = w 107 → G Γ m_MO_readClause (d + 1) (0, 0) Q 33 [.ref r0, .int x1] [] μ))) : G Γ m_MO_readClause (d + 1) (0, 0) Q 18 [.ref r0, .int x1] [] μ := by
  refine run_ok (pc' := 21) [(.iload_n 1, 0, 0, 0), (.bipush 107, 0, 0, 0)] _ _ _ _ (by decide +kernel) ?_
  show G Γ m_MO_readClause (d + 1) (0, 0) Q 21 [.ref r0, .int x1] [.int (w 107), .int x1] μ
  refine g_icmp_ne (pc' := 33) (off := 12) (by decide) (by decide +kernel) (fun hc => ?_) (fun hc => ?_)
  · replace h := h.2 hc
    show G Γ m_MO_readClause (d + 1) (0, 0) Q 33 [.ref r0, .int x1] [] μ
    exact h
  · replace h := h.1 hc
    show G Γ m_MO_readClause (d + 1) (0, 0) Q 24 [.ref r0, .int x1] [] μ
    refine run_ok (pc' := 30) [(.aload_n 0, 0, 0, 0), (.getfield 258, 11, 26, 0), (.bipush 6, 0, 0, 0)] _ _ _ _ (by decide +kernel) ?_
    show _ ∧ (_)
    refine ⟨o_r0_11, ?_⟩
    show G Γ m_MO_readClause (d + 1) (0, 0) Q 30 [.ref r0, .int x1] [.int (w 6), .int (xI μ r0 26)] μ
    refine g_icmp_lt (pc' := 48) (off := 18) (by decide) (by decide +kernel) (fun hc => ?_) (fun hc => ?_)
    · replace h := h.1 hc
      show G Γ m_MO_readClause (d + 1) (0, 0) Q 48 [.ref r0, .int x1] [] μ
      exact h
    · replace h := h.2 hc
      show G Γ m_MO_readClause (d + 1) (0, 0) Q 33 [.ref r0, .int x1] [] μ
      exact h
set_option maxRecDepth 100000 in
theorem B_MO_readClause_33 {Γ : XG} {d : Nat} {Q : Option Value → XM → Prop} {r0 : Nat} {x1 : Int32} {μ : XM} (o_r0_11 : ob μ r0 11) (h : ((x1 = w 98 → ((xI μ r0 27 < w 8 → G Γ m_MO_readClause (d + 1) (0, 0) Q 48 [.ref r0, .int x1] [] μ) ∧ (¬ xI μ r0 27 < w 8 → G Γ m_MO_readClause (d + 1) (0, 0) Q 52 [.ref r0, .int x1] [] μ))) ∧ (¬ x1 = w 98 → G Γ m_MO_readClause (d + 1) (0, 0) Q 52 [.ref r0, .int x1] [] μ))) : G Γ m_MO_readClause (d + 1) (0, 0) Q 33 [.ref r0, .int x1] [] μ := by
  refine run_ok (pc' := 36) [(.iload_n 1, 0, 0, 0), (.bipush 98, 0, 0, 0)] _ _ _ _ (by decide +kernel) ?_
  show G Γ m_MO_readClause (d + 1) (0, 0) Q 36 [.ref r0, .int x1] [.int (w 98), .int x1] μ
  refine g_icmp_ne (pc' := 52) (off := 16) (by decide) (by decide +kernel) (fun hc => ?_) (fun hc => ?_)
  · replace h := h.2 hc
    show G Γ m_MO_readClause (d + 1) (0, 0) Q 52 [.ref r0, .int x1] [] μ
    exact h
  · replace h := h.1 hc
    show G Γ m_MO_readClause (d + 1) (0, 0) Q 39 [.ref r0, .int x1] [] μ
    refine run_ok (pc' := 45) [(.aload_n 0, 0, 0, 0), (.getfield 261, 11, 27, 0), (.bipush 8, 0, 0, 0)] _ _ _ _ (by decide +kernel) ?_
    show _ ∧ (_)
    refine ⟨o_r0_11, ?_⟩
    show G Γ m_MO_readClause (d + 1) (0, 0) Q 45 [.ref r0, .int x1] [.int (w 8), .int (xI μ r0 27)] μ
    refine g_icmp_ge (pc' := 52) (off := 7) (by decide) (by decide +kernel) (fun hc => ?_) (fun hc => ?_)
    · replace h := h.2 hc
      show G Γ m_MO_readClause (d + 1) (0, 0) Q 52 [.ref r0, .int x1] [] μ
      exact h
    · replace h := h.1 hc
      show G Γ m_MO_readClause (d + 1) (0, 0) Q 48 [.ref r0, .int x1] [] μ
      exact h
set_option maxRecDepth 100000 in
theorem B_MO_readClause_48 {Γ : XG} {d : Nat} {Q : Option Value → XM → Prop} {r0 r0_22 r0_21 r0_19 : Nat} {x1 : Int32} {μ : XM} (o_r0_11 : ob μ r0 11) (e_r0_22 : xR μ r0 22 = some r0_22) (e_r0_21 : xR μ r0 21 = some r0_21) (e_r0_19 : xR μ r0 19 = some r0_19) (h : ((w 1 = w 0 → Call Γ m_MO_fails d [.ref r0] μ (KI (fun v8 μ8 => Q none μ8))) ∧ (¬ w 1 = w 0 → ∀ μ1, μ1 = sI μ r0 10 ((xI μ r0 10) + (w 1)) → ((x1 = w 115 → ∀ μ6, μ6 = sI μ1 r0 29 (w 1) → Call Γ m_MO_readItems d [.ref r0, .int x1, .ref r0_19, .int (w 0), .ref 16] μ6 (KV (fun μ7 => Q none μ7))) ∧ (¬ x1 = w 115 → ((x1 = w 107 → ∀ μ4, μ4 = sI μ1 r0 26 ((xI μ1 r0 26) + (w 1)) → Call Γ m_MO_readItems d [.ref r0, .int x1, .ref r0_21, .int ((w 5) * ((xI μ4 r0 26) - (w 1))), .ref 17] μ4 (KV (fun μ5 => Q none μ5))) ∧ (¬ x1 = w 107 → ∀ μ2, μ2 = sI μ1 r0 27 ((xI μ1 r0 27) + (w 1)) → Call Γ m_MO_readItems d [.ref r0, .int x1, .ref r0_22, .int ((w 4) * ((xI μ2 r0 27) - (w 1))), .ref 18] μ2 (KV (fun μ3 => Q none μ3))))))))) : G Γ m_MO_readClause (d + 1) (0, 0) Q 48 [.ref r0, .int x1] [] μ := by
  refine run_ok (pc' := 55) [(.iconst 1, 0, 0, 0), (.goto 4, 0, 0, 0), (.istore_n 2, 0, 0, 0), (.iload_n 2, 0, 0, 0)] _ _ _ _ (by decide +kernel) ?_
  show G Γ m_MO_readClause (d + 1) (0, 0) Q 55 [.ref r0, .int x1, .int (w 1)] [.int (w 1)] μ
  refine g_ifz_ne (pc' := 64) (off := 9) (by decide) (by decide +kernel) (fun hc => ?_) (fun hc => ?_)
  · replace h := h.2 hc
    show G Γ m_MO_readClause (d + 1) (0, 0) Q 64 [.ref r0, .int x1, .int (w 1)] [] μ
    refine run_ok (pc' := 74) [(.aload_n 0, 0, 0, 0), (.dup, 0, 0, 0), (.getfield 132, 11, 10, 0), (.iconst 1, 0, 0, 0), (.iadd, 0, 0, 0), (.putfield 132, 11, 10, 0)] _ _ _ _ (by decide +kernel) ?_
    show _ ∧ (_ ∧ (_))
    refine ⟨o_r0_11, o_r0_11, ?_⟩
    show G Γ m_MO_readClause (d + 1) (0, 0) Q 74 [.ref r0, .int x1, .int (w 1)] [] (sI μ r0 10 ((xI μ r0 10) + (w 1)))
    obtain ⟨μ1, em1⟩ : ∃ m : XM, m = sI μ r0 10 ((xI μ r0 10) + (w 1)) := ⟨_, rfl⟩
    replace h := h μ1 em1
    have hm1 : xN μ ≤ xN μ1 := by rw [em1]; exact Nat.le_refl _
    rw [← em1]
    refine run_ok (pc' := 77) [(.iload_n 1, 0, 0, 0), (.bipush 115, 0, 0, 0)] _ _ _ _ (by decide +kernel) ?_
    show G Γ m_MO_readClause (d + 1) (0, 0) Q 77 [.ref r0, .int x1, .int (w 1)] [.int (w 115), .int x1] μ1
    refine g_icmp_ne (pc' := 101) (off := 24) (by decide) (by decide +kernel) (fun hc => ?_) (fun hc => ?_)
    · replace h := h.2 hc
      show G Γ m_MO_readClause (d + 1) (0, 0) Q 101 [.ref r0, .int x1, .int (w 1)] [] μ1
      refine run_ok (pc' := 104) [(.iload_n 1, 0, 0, 0), (.bipush 107, 0, 0, 0)] _ _ _ _ (by decide +kernel) ?_
      show G Γ m_MO_readClause (d + 1) (0, 0) Q 104 [.ref r0, .int x1, .int (w 1)] [.int (w 107), .int x1] μ1
      refine g_icmp_ne (pc' := 140) (off := 36) (by decide) (by decide +kernel) (fun hc => ?_) (fun hc => ?_)
      · replace h := h.2 hc
        show G Γ m_MO_readClause (d + 1) (0, 0) Q 140 [.ref r0, .int x1, .int (w 1)] [] μ1
        refine run_ok (pc' := 150) [(.aload_n 0, 0, 0, 0), (.dup, 0, 0, 0), (.getfield 261, 11, 27, 0), (.iconst 1, 0, 0, 0), (.iadd, 0, 0, 0), (.putfield 261, 11, 27, 0)] _ _ _ _ (by decide +kernel) ?_
        show _ ∧ (_ ∧ (_))
        refine ⟨((o_r0_11).mono hm1), ((o_r0_11).mono hm1), ?_⟩
        show G Γ m_MO_readClause (d + 1) (0, 0) Q 150 [.ref r0, .int x1, .int (w 1)] [] (sI μ1 r0 27 ((xI μ1 r0 27) + (w 1)))
        obtain ⟨μ2, em2⟩ : ∃ m : XM, m = sI μ1 r0 27 ((xI μ1 r0 27) + (w 1)) := ⟨_, rfl⟩
        replace h := h μ2 em2
        have hm2 : xN μ1 ≤ xN μ2 := by rw [em2]; exact Nat.le_refl _
        rw [← em2]
        refine run_ok (pc' := 167) [(.aload_n 0, 0, 0, 0), (.iload_n 1, 0, 0, 0), (.aload_n 0, 0, 0, 0), (.getfield 49, 11, 22, 2), (.iconst 4, 0, 0, 0), (.aload_n 0, 0, 0, 0), (.getfield 261, 11, 27, 0), (.iconst 1, 0, 0, 0), (.isub, 0, 0, 0), (.imul, 0, 0, 0), (.ldc_w 272, 1, 4, 0)] _ _ _ _ (by decide +kernel) ?_
        show _ ∧ (∃ _, _ ∧ (_ ∧ (_)))
        refine ⟨(((o_r0_11).mono hm1).mono hm2), r0_22, (by rw [em2]; exact (by rw [em1]; exact e_r0_22)), (((o_r0_11).mono hm1).mono hm2), ?_⟩
        show G Γ m_MO_readClause (d + 1) (0, 0) Q 167 [.ref r0, .int x1, .int (w 1)] [.ref 18, .int ((w 4) * ((xI μ2 r0 27) - (w 1))), .ref r0_22, .int x1, .ref r0] μ2
        refine g_invV (M' := m_MO_readItems) (b1 := 0) (b2 := 0) (As := [.int x1, .ref r0_22, .int ((w 4) * ((xI μ2 r0 27) - (w 1))), .ref 18]) (a := r0) (st := []) lk_11_266 (by decide +kernel) rfl (dk_MO_readItems d) (Nat.le_of_ble_eq_true rfl) (Or.inl ⟨11, (((o_r0_11).mono hm1).mono hm2), rfl⟩) h ?_
        rintro _ μ3 ⟨rfl, h⟩ hn3
        show G Γ m_MO_readClause (d + 1) (0, 0) Q 170 [.ref r0, .int x1, .int (w 1)] [] μ3
        exact g_retv (by decide +kernel) rfl h
      · replace h := h.1 hc
        show G Γ m_MO_readClause (d + 1) (0, 0) Q 107 [.ref r0, .int x1, .int (w 1)] [] μ1
        refine run_ok (pc' := 117) [(.aload_n 0, 0, 0, 0), (.dup, 0, 0, 0), (.getfield 258, 11, 26, 0), (.iconst 1, 0, 0, 0), (.iadd, 0, 0, 0), (.putfield 258, 11, 26, 0)] _ _ _ _ (by decide +kernel) ?_
        show _ ∧ (_ ∧ (_))
        refine ⟨((o_r0_11).mono hm1), ((o_r0_11).mono hm1), ?_⟩
        show G Γ m_MO_readClause (d + 1) (0, 0) Q 117 [.ref r0, .int x1, .int (w 1)] [] (sI μ1 r0 26 ((xI μ1 r0 26) + (w 1)))
        obtain ⟨μ4, em4⟩ : ∃ m : XM, m = sI μ1 r0 26 ((xI μ1 r0 26) + (w 1)) := ⟨_, rfl⟩
        replace h := h μ4 em4
        have hm4 : xN μ1 ≤ xN μ4 := by rw [em4]; exact Nat.le_refl _
        rw [← em4]
        refine run_ok (pc' := 134) [(.aload_n 0, 0, 0, 0), (.iload_n 1, 0, 0, 0), (.aload_n 0, 0, 0, 0), (.getfield 46, 11, 21, 2), (.iconst 5, 0, 0, 0), (.aload_n 0, 0, 0, 0), (.getfield 258, 11, 26, 0), (.iconst 1, 0, 0, 0), (.isub, 0, 0, 0), (.imul, 0, 0, 0), (.ldc_w 270, 1, 3, 0)] _ _ _ _ (by decide +kernel) ?_
        show _ ∧ (∃ _, _ ∧ (_ ∧ (_)))
        refine ⟨(((o_r0_11).mono hm1).mono hm4), r0_21, (by rw [em4]; exact (by rw [em1]; exact e_r0_21)), (((o_r0_11).mono hm1).mono hm4), ?_⟩
        show G Γ m_MO_readClause (d + 1) (0, 0) Q 134 [.ref r0, .int x1, .int (w 1)] [.ref 17, .int ((w 5) * ((xI μ4 r0 26) - (w 1))), .ref r0_21, .int x1, .ref r0] μ4
        refine g_invV (M' := m_MO_readItems) (b1 := 0) (b2 := 0) (As := [.int x1, .ref r0_21, .int ((w 5) * ((xI μ4 r0 26) - (w 1))), .ref 17]) (a := r0) (st := []) lk_11_266 (by decide +kernel) rfl (dk_MO_readItems d) (Nat.le_of_ble_eq_true rfl) (Or.inl ⟨11, (((o_r0_11).mono hm1).mono hm4), rfl⟩) h ?_
        rintro _ μ5 ⟨rfl, h⟩ hn5
        show G Γ m_MO_readClause (d + 1) (0, 0) Q 137 [.ref r0, .int x1, .int (w 1)] [] μ5
        refine run_ok (pc' := 170) [(.goto 33, 0, 0, 0)] _ _ _ _ (by decide +kernel) ?_
        show G Γ m_MO_readClause (d + 1) (0, 0) Q 170 [.ref r0, .int x1, .int (w 1)] [] μ5
        exact g_retv (by decide +kernel) rfl h
    · replace h := h.1 hc
      show G Γ m_MO_readClause (d + 1) (0, 0) Q 80 [.ref r0, .int x1, .int (w 1)] [] μ1
      refine run_ok (pc' := 85) [(.aload_n 0, 0, 0, 0), (.iconst 1, 0, 0, 0), (.putfield 255, 11, 29, 3)] _ _ _ _ (by decide +kernel) ?_
      show _ ∧ (_ ∧ (_))
      refine ⟨((o_r0_11).mono hm1), Or.inr rfl, ?_⟩
      show G Γ m_MO_readClause (d + 1) (0, 0) Q 85 [.ref r0, .int x1, .int (w 1)] [] (sI μ1 r0 29 (w 1))
      obtain ⟨μ6, em6⟩ : ∃ m : XM, m = sI μ1 r0 29 (w 1) := ⟨_, rfl⟩
      replace h := h μ6 em6
      have hm6 : xN μ1 ≤ xN μ6 := by rw [em6]; exact Nat.le_refl _
      rw [← em6]
      refine run_ok (pc' := 95) [(.aload_n 0, 0, 0, 0), (.iload_n 1, 0, 0, 0), (.aload_n 0, 0, 0, 0), (.getfield 40, 11, 19, 2), (.iconst 0, 0, 0, 0), (.ldc_w 264, 1, 2, 0)] _ _ _ _ (by decide +kernel) ?_
      show _ ∧ (∃ _, _ ∧ (_))
      refine ⟨(((o_r0_11).mono hm1).mono hm6), r0_19, (by rw [em6]; exact (by rw [em1]; exact e_r0_19)), ?_⟩
      show G Γ m_MO_readClause (d + 1) (0, 0) Q 95 [.ref r0, .int x1, .int (w 1)] [.ref 16, .int (w 0), .ref r0_19, .int x1, .ref r0] μ6
      refine g_invV (M' := m_MO_readItems) (b1 := 0) (b2 := 0) (As := [.int x1, .ref r0_19, .int (w 0), .ref 16]) (a := r0) (st := []) lk_11_266 (by decide +kernel) rfl (dk_MO_readItems d) (Nat.le_of_ble_eq_true rfl) (Or.inl ⟨11, (((o_r0_11).mono hm1).mono hm6), rfl⟩) h ?_
      rintro _ μ7 ⟨rfl, h⟩ hn7
      show G Γ m_MO_readClause (d + 1) (0, 0) Q 98 [.ref r0, .int x1, .int (w 1)] [] μ7
      refine run_ok (pc' := 170) [(.goto 72, 0, 0, 0)] _ _ _ _ (by decide +kernel) ?_
      show G Γ m_MO_readClause (d + 1) (0, 0) Q 170 [.ref r0, .int x1, .int (w 1)] [] μ7
      exact g_retv (by decide +kernel) rfl h
  · replace h := h.1 hc
    show G Γ m_MO_readClause (d + 1) (0, 0) Q 58 [.ref r0, .int x1, .int (w 1)] [] μ
    refine run_ok (pc' := 59) [(.aload_n 0, 0, 0, 0)] _ _ _ _ (by decide +kernel) ?_
    show G Γ m_MO_readClause (d + 1) (0, 0) Q 59 [.ref r0, .int x1, .int (w 1)] [.ref r0] μ
    refine g_invV (M' := m_MO_fails) (b1 := 0) (b2 := 0) (As := []) (a := r0) (st := []) lk_11_147 (by decide +kernel) rfl (dk_MO_fails d) (Nat.le_of_ble_eq_true rfl) (Or.inl ⟨11, o_r0_11, rfl⟩) h ?_
    rintro _ μ8 ⟨v8, rfl, h⟩ hn8
    show G Γ m_MO_readClause (d + 1) (0, 0) Q 62 [.ref r0, .int x1, .int (w 1)] [.int v8] μ8
    refine run_ok (pc' := 63) [(.pop, 0, 0, 0)] _ _ _ _ (by decide +kernel) ?_
    show G Γ m_MO_readClause (d + 1) (0, 0) Q 63 [.ref r0, .int x1, .int (w 1)] [] μ8
    exact g_retv (by decide +kernel) rfl h
set_option maxRecDepth 100000 in
theorem B_MO_readClause_52 {Γ : XG} {d : Nat} {Q : Option Value → XM → Prop} {r0 r0_22 r0_21 r0_19 : Nat} {x1 : Int32} {μ : XM} (o_r0_11 : ob μ r0 11) (e_r0_22 : xR μ r0 22 = some r0_22) (e_r0_21 : xR μ r0 21 = some r0_21) (e_r0_19 : xR μ r0 19 = some r0_19) (h : ((w 0 = w 0 → Call Γ m_MO_fails d [.ref r0] μ (KI (fun v8 μ8 => Q none μ8))) ∧ (¬ w 0 = w 0 → ∀ μ1, μ1 = sI μ r0 10 ((xI μ r0 10) + (w 1)) → ((x1 = w 115 → ∀ μ6, μ6 = sI μ1 r0 29 (w 1) → Call Γ m_MO_readItems d [.ref r0, .int x1, .ref r0_19, .int (w 0), .ref 16] μ6 (KV (fun μ7 => Q none μ7))) ∧ (¬ x1 = w 115 → ((x1 = w 107 → ∀ μ4, μ4 = sI μ1 r0 26 ((xI μ1 r0 26) + (w 1)) → Call Γ m_MO_readItems d [.ref r0, .int x1, .ref r0_21, .int ((w 5) * ((xI μ4 r0 26) - (w 1))), .ref 17] μ4 (KV (fun μ5 => Q none μ5))) ∧ (¬ x1 = w 107 → ∀ μ2, μ2 = sI μ1 r0 27 ((xI μ1 r0 27) + (w 1)) → Call Γ m_MO_readItems d [.ref r0, .int x1, .ref r0_22, .int ((w 4) * ((xI μ2 r0 27) - (w 1))), .ref 18] μ2 (KV (fun μ3 => Q none μ3))))))))) : G Γ m_MO_readClause (d + 1) (0, 0) Q 52 [.ref r0, .int x1] [] μ := by
  refine run_ok (pc' := 55) [(.iconst 0, 0, 0, 0), (.istore_n 2, 0, 0, 0), (.iload_n 2, 0, 0, 0)] _ _ _ _ (by decide +kernel) ?_
  show G Γ m_MO_readClause (d + 1) (0, 0) Q 55 [.ref r0, .int x1, .int (w 0)] [.int (w 0)] μ
  refine g_ifz_ne (pc' := 64) (off := 9) (by decide) (by decide +kernel) (fun hc => ?_) (fun hc => ?_)
  · replace h := h.2 hc
    show G Γ m_MO_readClause (d + 1) (0, 0) Q 64 [.ref r0, .int x1, .int (w 0)] [] μ
    refine run_ok (pc' := 74) [(.aload_n 0, 0, 0, 0), (.dup, 0, 0, 0), (.getfield 132, 11, 10, 0), (.iconst 1, 0, 0, 0), (.iadd, 0, 0, 0), (.putfield 132, 11, 10, 0)] _ _ _ _ (by decide +kernel) ?_
    show _ ∧ (_ ∧ (_))
    refine ⟨o_r0_11, o_r0_11, ?_⟩
    show G Γ m_MO_readClause (d + 1) (0, 0) Q 74 [.ref r0, .int x1, .int (w 0)] [] (sI μ r0 10 ((xI μ r0 10) + (w 1)))
    obtain ⟨μ1, em1⟩ : ∃ m : XM, m = sI μ r0 10 ((xI μ r0 10) + (w 1)) := ⟨_, rfl⟩
    replace h := h μ1 em1
    have hm1 : xN μ ≤ xN μ1 := by rw [em1]; exact Nat.le_refl _
    rw [← em1]
    refine run_ok (pc' := 77) [(.iload_n 1, 0, 0, 0), (.bipush 115, 0, 0, 0)] _ _ _ _ (by decide +kernel) ?_
    show G Γ m_MO_readClause (d + 1) (0, 0) Q 77 [.ref r0, .int x1, .int (w 0)] [.int (w 115), .int x1] μ1
    refine g_icmp_ne (pc' := 101) (off := 24) (by decide) (by decide +kernel) (fun hc => ?_) (fun hc => ?_)
    · replace h := h.2 hc
      show G Γ m_MO_readClause (d + 1) (0, 0) Q 101 [.ref r0, .int x1, .int (w 0)] [] μ1
      refine run_ok (pc' := 104) [(.iload_n 1, 0, 0, 0), (.bipush 107, 0, 0, 0)] _ _ _ _ (by decide +kernel) ?_
      show G Γ m_MO_readClause (d + 1) (0, 0) Q 104 [.ref r0, .int x1, .int (w 0)] [.int (w 107), .int x1] μ1
      refine g_icmp_ne (pc' := 140) (off := 36) (by decide) (by decide +kernel) (fun hc => ?_) (fun hc => ?_)
      · replace h := h.2 hc
        show G Γ m_MO_readClause (d + 1) (0, 0) Q 140 [.ref r0, .int x1, .int (w 0)] [] μ1
        refine run_ok (pc' := 150) [(.aload_n 0, 0, 0, 0), (.dup, 0, 0, 0), (.getfield 261, 11, 27, 0), (.iconst 1, 0, 0, 0), (.iadd, 0, 0, 0), (.putfield 261, 11, 27, 0)] _ _ _ _ (by decide +kernel) ?_
        show _ ∧ (_ ∧ (_))
        refine ⟨((o_r0_11).mono hm1), ((o_r0_11).mono hm1), ?_⟩
        show G Γ m_MO_readClause (d + 1) (0, 0) Q 150 [.ref r0, .int x1, .int (w 0)] [] (sI μ1 r0 27 ((xI μ1 r0 27) + (w 1)))
        obtain ⟨μ2, em2⟩ : ∃ m : XM, m = sI μ1 r0 27 ((xI μ1 r0 27) + (w 1)) := ⟨_, rfl⟩
        replace h := h μ2 em2
        have hm2 : xN μ1 ≤ xN μ2 := by rw [em2]; exact Nat.le_refl _
        rw [← em2]
        refine run_ok (pc' := 167) [(.aload_n 0, 0, 0, 0), (.iload_n 1, 0, 0, 0), (.aload_n 0, 0, 0, 0), (.getfield 49, 11, 22, 2), (.iconst 4, 0, 0, 0), (.aload_n 0, 0, 0, 0), (.getfield 261, 11, 27, 0), (.iconst 1, 0, 0, 0), (.isub, 0, 0, 0), (.imul, 0, 0, 0), (.ldc_w 272, 1, 4, 0)] _ _ _ _ (by decide +kernel) ?_
        show _ ∧ (∃ _, _ ∧ (_ ∧ (_)))
        refine ⟨(((o_r0_11).mono hm1).mono hm2), r0_22, (by rw [em2]; exact (by rw [em1]; exact e_r0_22)), (((o_r0_11).mono hm1).mono hm2), ?_⟩
        show G Γ m_MO_readClause (d + 1) (0, 0) Q 167 [.ref r0, .int x1, .int (w 0)] [.ref 18, .int ((w 4) * ((xI μ2 r0 27) - (w 1))), .ref r0_22, .int x1, .ref r0] μ2
        refine g_invV (M' := m_MO_readItems) (b1 := 0) (b2 := 0) (As := [.int x1, .ref r0_22, .int ((w 4) * ((xI μ2 r0 27) - (w 1))), .ref 18]) (a := r0) (st := []) lk_11_266 (by decide +kernel) rfl (dk_MO_readItems d) (Nat.le_of_ble_eq_true rfl) (Or.inl ⟨11, (((o_r0_11).mono hm1).mono hm2), rfl⟩) h ?_
        rintro _ μ3 ⟨rfl, h⟩ hn3
        show G Γ m_MO_readClause (d + 1) (0, 0) Q 170 [.ref r0, .int x1, .int (w 0)] [] μ3
        exact g_retv (by decide +kernel) rfl h
      · replace h := h.1 hc
        show G Γ m_MO_readClause (d + 1) (0, 0) Q 107 [.ref r0, .int x1, .int (w 0)] [] μ1
        refine run_ok (pc' := 117) [(.aload_n 0, 0, 0, 0), (.dup, 0, 0, 0), (.getfield 258, 11, 26, 0), (.iconst 1, 0, 0, 0), (.iadd, 0, 0, 0), (.putfield 258, 11, 26, 0)] _ _ _ _ (by decide +kernel) ?_
        show _ ∧ (_ ∧ (_))
        refine ⟨((o_r0_11).mono hm1), ((o_r0_11).mono hm1), ?_⟩
        show G Γ m_MO_readClause (d + 1) (0, 0) Q 117 [.ref r0, .int x1, .int (w 0)] [] (sI μ1 r0 26 ((xI μ1 r0 26) + (w 1)))
        obtain ⟨μ4, em4⟩ : ∃ m : XM, m = sI μ1 r0 26 ((xI μ1 r0 26) + (w 1)) := ⟨_, rfl⟩
        replace h := h μ4 em4
        have hm4 : xN μ1 ≤ xN μ4 := by rw [em4]; exact Nat.le_refl _
        rw [← em4]
        refine run_ok (pc' := 134) [(.aload_n 0, 0, 0, 0), (.iload_n 1, 0, 0, 0), (.aload_n 0, 0, 0, 0), (.getfield 46, 11, 21, 2), (.iconst 5, 0, 0, 0), (.aload_n 0, 0, 0, 0), (.getfield 258, 11, 26, 0), (.iconst 1, 0, 0, 0), (.isub, 0, 0, 0), (.imul, 0, 0, 0), (.ldc_w 270, 1, 3, 0)] _ _ _ _ (by decide +kernel) ?_
        show _ ∧ (∃ _, _ ∧ (_ ∧ (_)))
        refine ⟨(((o_r0_11).mono hm1).mono hm4), r0_21, (by rw [em4]; exact (by rw [em1]; exact e_r0_21)), (((o_r0_11).mono hm1).mono hm4), ?_⟩
        show G Γ m_MO_readClause (d + 1) (0, 0) Q 134 [.ref r0, .int x1, .int (w 0)] [.ref 17, .int ((w 5) * ((xI μ4 r0 26) - (w 1))), .ref r0_21, .int x1, .ref r0] μ4
        refine g_invV (M' := m_MO_readItems) (b1 := 0) (b2 := 0) (As := [.int x1, .ref r0_21, .int ((w 5) * ((xI μ4 r0 26) - (w 1))), .ref 17]) (a := r0) (st := []) lk_11_266 (by decide +kernel) rfl (dk_MO_readItems d) (Nat.le_of_ble_eq_true rfl) (Or.inl ⟨11, (((o_r0_11).mono hm1).mono hm4), rfl⟩) h ?_
        rintro _ μ5 ⟨rfl, h⟩ hn5
        show G Γ m_MO_readClause (d + 1) (0, 0) Q 137 [.ref r0, .int x1, .int (w 0)] [] μ5
        refine run_ok (pc' := 170) [(.goto 33, 0, 0, 0)] _ _ _ _ (by decide +kernel) ?_
        show G Γ m_MO_readClause (d + 1) (0, 0) Q 170 [.ref r0, .int x1, .int (w 0)] [] μ5
        exact g_retv (by decide +kernel) rfl h
    · replace h := h.1 hc
      show G Γ m_MO_readClause (d + 1) (0, 0) Q 80 [.ref r0, .int x1, .int (w 0)] [] μ1
      refine run_ok (pc' := 85) [(.aload_n 0, 0, 0, 0), (.iconst 1, 0, 0, 0), (.putfield 255, 11, 29, 3)] _ _ _ _ (by decide +kernel) ?_
      show _ ∧ (_ ∧ (_))
      refine ⟨((o_r0_11).mono hm1), Or.inr rfl, ?_⟩
      show G Γ m_MO_readClause (d + 1) (0, 0) Q 85 [.ref r0, .int x1, .int (w 0)] [] (sI μ1 r0 29 (w 1))
      obtain ⟨μ6, em6⟩ : ∃ m : XM, m = sI μ1 r0 29 (w 1) := ⟨_, rfl⟩
      replace h := h μ6 em6
      have hm6 : xN μ1 ≤ xN μ6 := by rw [em6]; exact Nat.le_refl _
      rw [← em6]
      refine run_ok (pc' := 95) [(.aload_n 0, 0, 0, 0), (.iload_n 1, 0, 0, 0), (.aload_n 0, 0, 0, 0), (.getfield 40, 11, 19, 2), (.iconst 0, 0, 0, 0), (.ldc_w 264, 1, 2, 0)] _ _ _ _ (by decide +kernel) ?_
      show _ ∧ (∃ _, _ ∧ (_))
      refine ⟨(((o_r0_11).mono hm1).mono hm6), r0_19, (by rw [em6]; exact (by rw [em1]; exact e_r0_19)), ?_⟩
      show G Γ m_MO_readClause (d + 1) (0, 0) Q 95 [.ref r0, .int x1, .int (w 0)] [.ref 16, .int (w 0), .ref r0_19, .int x1, .ref r0] μ6
      refine g_invV (M' := m_MO_readItems) (b1 := 0) (b2 := 0) (As := [.int x1, .ref r0_19, .int (w 0), .ref 16]) (a := r0) (st := []) lk_11_266 (by decide +kernel) rfl (dk_MO_readItems d) (Nat.le_of_ble_eq_true rfl) (Or.inl ⟨11, (((o_r0_11).mono hm1).mono hm6), rfl⟩) h ?_
      rintro _ μ7 ⟨rfl, h⟩ hn7
      show G Γ m_MO_readClause (d + 1) (0, 0) Q 98 [.ref r0, .int x1, .int (w 0)] [] μ7
      refine run_ok (pc' := 170) [(.goto 72, 0, 0, 0)] _ _ _ _ (by decide +kernel) ?_
      show G Γ m_MO_readClause (d + 1) (0, 0) Q 170 [.ref r0, .int x1, .int (w 0)] [] μ7
      exact g_retv (by decide +kernel) rfl h
  · replace h := h.1 hc
    show G Γ m_MO_readClause (d + 1) (0, 0) Q 58 [.ref r0, .int x1, .int (w 0)] [] μ
    refine run_ok (pc' := 59) [(.aload_n 0, 0, 0, 0)] _ _ _ _ (by decide +kernel) ?_
    show G Γ m_MO_readClause (d + 1) (0, 0) Q 59 [.ref r0, .int x1, .int (w 0)] [.ref r0] μ
    refine g_invV (M' := m_MO_fails) (b1 := 0) (b2 := 0) (As := []) (a := r0) (st := []) lk_11_147 (by decide +kernel) rfl (dk_MO_fails d) (Nat.le_of_ble_eq_true rfl) (Or.inl ⟨11, o_r0_11, rfl⟩) h ?_
    rintro _ μ8 ⟨v8, rfl, h⟩ hn8
    show G Γ m_MO_readClause (d + 1) (0, 0) Q 62 [.ref r0, .int x1, .int (w 0)] [.int v8] μ8
    refine run_ok (pc' := 63) [(.pop, 0, 0, 0)] _ _ _ _ (by decide +kernel) ?_
    show G Γ m_MO_readClause (d + 1) (0, 0) Q 63 [.ref r0, .int x1, .int (w 0)] [] μ8
    exact g_retv (by decide +kernel) rfl h
/-! FrostBoxModel isWhole()Z -/
set_option maxRecDepth 100000 in
theorem B_MO_isWhole_0 {Γ : XG} {d : Nat} {Q : Option Value → XM → Prop} {r0 : Nat} {μ : XM} (o_r0_11 : ob μ r0 11) (h : ((w 0 < xI μ r0 26 → G Γ m_MO_isWhole (d + 1) (0, 0) Q 17 [.ref r0, .int (w 1), .int (w 0), .int (w 0)] [] μ) ∧ (¬ w 0 < xI μ r0 26 → G Γ m_MO_isWhole (d + 1) (0, 0) Q 17 [.ref r0, .int (w 0), .int (w 0), .int (w 0)] [] μ))) : G Γ m_MO_isWhole (d + 1) (0, 0) Q 0 [.ref r0] [] μ := by
  refine run_ok (pc' := 4) [(.aload_n 0, 0, 0, 0), (.getfield 258, 11, 26, 0)] _ _ _ _ (by decide +kernel) ?_
  show _ ∧ (_)
  refine ⟨o_r0_11, ?_⟩
  show G Γ m_MO_isWhole (d + 1) (0, 0) Q 4 [.ref r0] [.int (xI μ r0 26)] μ
  refine g_ifz_le (pc' := 11) (off := 7) (by decide) (by decide +kernel) (fun hc => ?_) (fun hc => ?_)
  · replace h := h.2 hc
    show G Γ m_MO_isWhole (d + 1) (0, 0) Q 11 [.ref r0] [] μ
    refine run_ok (pc' := 17) [(.iconst 0, 0, 0, 0), (.istore_n 1, 0, 0, 0), (.iconst 0, 0, 0, 0), (.istore_n 2, 0, 0, 0), (.iconst 0, 0, 0, 0), (.istore_n 3, 0, 0, 0)] _ _ _ _ (by decide +kernel) ?_
    show G Γ m_MO_isWhole (d + 1) (0, 0) Q 17 [.ref r0, .int (w 0), .int (w 0), .int (w 0)] [] μ
    exact h
  · replace h := h.1 hc
    show G Γ m_MO_isWhole (d + 1) (0, 0) Q 7 [.ref r0] [] μ
    refine run_ok (pc' := 17) [(.iconst 1, 0, 0, 0), (.goto 4, 0, 0, 0), (.istore_n 1, 0, 0, 0), (.iconst 0, 0, 0, 0), (.istore_n 2, 0, 0, 0), (.iconst 0, 0, 0, 0), (.istore_n 3, 0, 0, 0)] _ _ _ _ (by decide +kernel) ?_
    show G Γ m_MO_isWhole (d + 1) (0, 0) Q 17 [.ref r0, .int (w 1), .int (w 0), .int (w 0)] [] μ
    exact h
set_option maxRecDepth 100000 in
theorem B_MO_isWhole_17 {Γ : XG} {d : Nat} {Q : Option Value → XM → Prop} {r0 r0_21 : Nat} {x1 x2 x3 : Int32} {μ : XM} (o_r0_11 : ob μ r0 11) (e_r0_21 : xR μ r0 21 = some r0_21) (h : ((x3 < xI μ r0 26 → ((x1 = w 0 → G Γ m_MO_isWhole (d + 1) (0, 0) Q 17 [.ref r0, .int (w 0), .int x2, .int (x3 + w 1)] [] μ) ∧ (¬ x1 = w 0 → inb μ 0 r0_21 (((w 5) * x3) + (w 4)) ∧ ((xI μ r0_21 (((w 5) * x3) + (w 4)).toNatClampNeg < xI μ r0 26 → G Γ m_MO_isWhole (d + 1) (0, 0) Q 17 [.ref r0, .int (w 1), .int x2, .int (x3 + w 1)] [] μ) ∧ (¬ xI μ r0_21 (((w 5) * x3) + (w 4)).toNatClampNeg < xI μ r0 26 → inb μ 0 r0_21 (((w 5) * x3) + (w 4)) ∧ ((xI μ r0_21 (((w 5) * x3) + (w 4)).toNatClampNeg = w 6 → G Γ m_MO_isWhole (d + 1) (0, 0) Q 17 [.ref r0, .int (w 1), .int x2, .int (x3 + w 1)] [] μ) ∧ (¬ xI μ r0_21 (((w 5) * x3) + (w 4)).toNatClampNeg = w 6 → G Γ m_MO_isWhole (d + 1) (0, 0) Q 17 [.ref r0, .int (w 0), .int x2, .int (x3 + w 1)] [] μ))))))) ∧ (¬ x3 < xI μ r0 26 → G Γ m_MO_isWhole (d + 1) (0, 0) Q 75 [.ref r0, .int x1, .int x2, .int (w 0)] [] μ))) : G Γ m_MO_isWhole (d + 1) (0, 0) Q 17 [.ref r0, .int x1, .int x2, .int x3] [] μ := by
  refine run_ok (pc' := 22) [(.iload_n 3, 0, 0, 0), (.aload_n 0, 0, 0, 0), (.getfield 258, 11, 26, 0)] _ _ _ _ (by decide +kernel) ?_
  show _ ∧ (_)
  refine ⟨o_r0_11, ?_⟩
  show G Γ m_MO_isWhole (d + 1) (0, 0) Q 22 [.ref r0, .int x1, .int x2, .int x3] [.int (xI μ r0 26), .int x3] μ
  refine g_icmp_ge (pc' := 73) (off := 51) (by decide) (by decide +kernel) (fun hc => ?_) (fun hc => ?_)
  · replace h := h.2 hc
    show G Γ m_MO_isWhole (d + 1) (0, 0) Q 73 [.ref r0, .int x1, .int x2, .int x3] [] μ
    refine run_ok (pc' := 75) [(.iconst 0, 0, 0, 0), (.istore_n 3, 0, 0, 0)] _ _ _ _ (by decide +kernel) ?_
    show G Γ m_MO_isWhole (d + 1) (0, 0) Q 75 [.ref r0, .int x1, .int x2, .int (w 0)] [] μ
    exact h
  · replace h := h.1 hc
    show G Γ m_MO_isWhole (d + 1) (0, 0) Q 25 [.ref r0, .int x1, .int x2, .int x3] [] μ
    refine run_ok (pc' := 26) [(.iload_n 1, 0, 0, 0)] _ _ _ _ (by decide +kernel) ?_
    show G Γ m_MO_isWhole (d + 1) (0, 0) Q 26 [.ref r0, .int x1, .int x2, .int x3] [.int x1] μ
    refine g_ifz_eq (pc' := 65) (off := 39) (by decide) (by decide +kernel) (fun hc => ?_) (fun hc => ?_)
    · replace h := h.1 hc
      show G Γ m_MO_isWhole (d + 1) (0, 0) Q 65 [.ref r0, .int x1, .int x2, .int x3] [] μ
      refine run_ok (pc' := 17) [(.iconst 0, 0, 0, 0), (.istore_n 1, 0, 0, 0), (.iinc 3 1, 0, 0, 0), (.goto (-53), 0, 0, 0)] _ _ _ _ (by decide +kernel) ?_
      show G Γ m_MO_isWhole (d + 1) (0, 0) Q 17 [.ref r0, .int (w 0), .int x2, .int (x3 + w 1)] [] μ
      exact h
    · replace h := h.2 hc
      show G Γ m_MO_isWhole (d + 1) (0, 0) Q 29 [.ref r0, .int x1, .int x2, .int x3] [] μ
      obtain ⟨ib1, h⟩ := h
      refine run_ok (pc' := 43) [(.aload_n 0, 0, 0, 0), (.getfield 46, 11, 21, 2), (.iconst 5, 0, 0, 0), (.iload_n 3, 0, 0, 0), (.imul, 0, 0, 0), (.iconst 4, 0, 0, 0), (.iadd, 0, 0, 0), (.iaload, 0, 0, 0), (.aload_n 0, 0, 0, 0), (.getfield 258, 11, 26, 0)] _ _ _ _ (by decide +kernel) ?_
      show _ ∧ (∃ _, _ ∧ (_ ∧ (_ ∧ (_))))
      refine ⟨o_r0_11, r0_21, e_r0_21, ib1, o_r0_11, ?_⟩
      show G Γ m_MO_isWhole (d + 1) (0, 0) Q 43 [.ref r0, .int x1, .int x2, .int x3] [.int (xI μ r0 26), .int (xI μ r0_21 (((w 5) * x3) + (w 4)).toNatClampNeg)] μ
      refine g_icmp_lt (pc' := 61) (off := 18) (by decide) (by decide +kernel) (fun hc => ?_) (fun hc => ?_)
      · replace h := h.1 hc
        show G Γ m_MO_isWhole (d + 1) (0, 0) Q 61 [.ref r0, .int x1, .int x2, .int x3] [] μ
        refine run_ok (pc' := 17) [(.iconst 1, 0, 0, 0), (.goto 4, 0, 0, 0), (.istore_n 1, 0, 0, 0), (.iinc 3 1, 0, 0, 0), (.goto (-53), 0, 0, 0)] _ _ _ _ (by decide +kernel) ?_
        show G Γ m_MO_isWhole (d + 1) (0, 0) Q 17 [.ref r0, .int (w 1), .int x2, .int (x3 + w 1)] [] μ
        exact h
      · replace h := h.2 hc
        show G Γ m_MO_isWhole (d + 1) (0, 0) Q 46 [.ref r0, .int x1, .int x2, .int x3] [] μ
        obtain ⟨ib2, h⟩ := h
        refine run_ok (pc' := 58) [(.aload_n 0, 0, 0, 0), (.getfield 46, 11, 21, 2), (.iconst 5, 0, 0, 0), (.iload_n 3, 0, 0, 0), (.imul, 0, 0, 0), (.iconst 4, 0, 0, 0), (.iadd, 0, 0, 0), (.iaload, 0, 0, 0), (.bipush 6, 0, 0, 0)] _ _ _ _ (by decide +kernel) ?_
        show _ ∧ (∃ _, _ ∧ (_ ∧ (_)))
        refine ⟨o_r0_11, r0_21, e_r0_21, ib2, ?_⟩
        show G Γ m_MO_isWhole (d + 1) (0, 0) Q 58 [.ref r0, .int x1, .int x2, .int x3] [.int (w 6), .int (xI μ r0_21 (((w 5) * x3) + (w 4)).toNatClampNeg)] μ
        refine g_icmp_ne (pc' := 65) (off := 7) (by decide) (by decide +kernel) (fun hc => ?_) (fun hc => ?_)
        · replace h := h.2 hc
          show G Γ m_MO_isWhole (d + 1) (0, 0) Q 65 [.ref r0, .int x1, .int x2, .int x3] [] μ
          refine run_ok (pc' := 17) [(.iconst 0, 0, 0, 0), (.istore_n 1, 0, 0, 0), (.iinc 3 1, 0, 0, 0), (.goto (-53), 0, 0, 0)] _ _ _ _ (by decide +kernel) ?_
          show G Γ m_MO_isWhole (d + 1) (0, 0) Q 17 [.ref r0, .int (w 0), .int x2, .int (x3 + w 1)] [] μ
          exact h
        · replace h := h.1 hc
          show G Γ m_MO_isWhole (d + 1) (0, 0) Q 61 [.ref r0, .int x1, .int x2, .int x3] [] μ
          refine run_ok (pc' := 17) [(.iconst 1, 0, 0, 0), (.goto 4, 0, 0, 0), (.istore_n 1, 0, 0, 0), (.iinc 3 1, 0, 0, 0), (.goto (-53), 0, 0, 0)] _ _ _ _ (by decide +kernel) ?_
          show G Γ m_MO_isWhole (d + 1) (0, 0) Q 17 [.ref r0, .int (w 1), .int x2, .int (x3 + w 1)] [] μ
          exact h
set_option maxRecDepth 100000 in
theorem B_MO_isWhole_75 {Γ : XG} {d : Nat} {Q : Option Value → XM → Prop} {r0 r0_19 r0_22 : Nat} {x1 x2 x3 : Int32} {μ : XM} (o_r0_11 : ob μ r0 11) (e_r0_19 : xR μ r0 19 = some r0_19) (e_r0_22 : xR μ r0 22 = some r0_22) (h : ((x3 < xI μ r0 27 → ((x1 = w 0 → inb μ 0 r0_22 (((w 4) * x3) + (w 1)) ∧ G Γ m_MO_isWhole (d + 1) (0, 0) Q 75 [.ref r0, .int (w 0), .int (x2 + (xI μ r0_22 (((w 4) * x3) + (w 1)).toNatClampNeg)), .int (x3 + w 1)] [] μ) ∧ (¬ x1 = w 0 → inb μ 0 r0_22 ((w 4) * x3) ∧ ((xI μ r0_22 ((w 4) * x3).toNatClampNeg < xI μ r0 26 → inb μ 0 r0_22 (((w 4) * x3) + (w 1)) ∧ G Γ m_MO_isWhole (d + 1) (0, 0) Q 75 [.ref r0, .int (w 1), .int (x2 + (xI μ r0_22 (((w 4) * x3) + (w 1)).toNatClampNeg)), .int (x3 + w 1)] [] μ) ∧ (¬ xI μ r0_22 ((w 4) * x3).toNatClampNeg < xI μ r0 26 → inb μ 0 r0_22 (((w 4) * x3) + (w 1)) ∧ G Γ m_MO_isWhole (d + 1) (0, 0) Q 75 [.ref r0, .int (w 0), .int (x2 + (xI μ r0_22 (((w 4) * x3) + (w 1)).toNatClampNeg)), .int (x3 + w 1)] [] μ))))) ∧ (¬ x3 < xI μ r0 27 → ((x1 = w 0 → Q (some (.int (w 0))) μ) ∧ (¬ x1 = w 0 → inb μ 0 r0_19 (w 0) ∧ ((xI μ r0_19 (w 0).toNatClampNeg < x2 → Q (some (.int (w 0))) μ) ∧ (¬ xI μ r0_19 (w 0).toNatClampNeg < x2 → Q (some (.int (w 1))) μ))))))) : G Γ m_MO_isWhole (d + 1) (0, 0) Q 75 [.ref r0, .int x1, .int x2, .int x3] [] μ := by
  refine run_ok (pc' := 80) [(.iload_n 3, 0, 0, 0), (.aload_n 0, 0, 0, 0), (.getfield 261, 11, 27, 0)] _ _ _ _ (by decide +kernel) ?_
  show _ ∧ (_)
  refine ⟨o_r0_11, ?_⟩
  show G Γ m_MO_isWhole (d + 1) (0, 0) Q 80 [.ref r0, .int x1, .int x2, .int x3] [.int (xI μ r0 27), .int x3] μ
  refine g_icmp_ge (pc' := 127) (off := 47) (by decide) (by decide +kernel) (fun hc => ?_) (fun hc => ?_)
  · replace h := h.2 hc
    show G Γ m_MO_isWhole (d + 1) (0, 0) Q 127 [.ref r0, .int x1, .int x2, .int x3] [] μ
    refine run_ok (pc' := 128) [(.iload_n 1, 0, 0, 0)] _ _ _ _ (by decide +kernel) ?_
    show G Γ m_MO_isWhole (d + 1) (0, 0) Q 128 [.ref r0, .int x1, .int x2, .int x3] [.int x1] μ
    refine g_ifz_eq (pc' := 145) (off := 17) (by decide) (by decide +kernel) (fun hc => ?_) (fun hc => ?_)
    · replace h := h.1 hc
      show G Γ m_MO_isWhole (d + 1) (0, 0) Q 145 [.ref r0, .int x1, .int x2, .int x3] [] μ
      refine run_ok (pc' := 146) [(.iconst 0, 0, 0, 0)] _ _ _ _ (by decide +kernel) ?_
      show G Γ m_MO_isWhole (d + 1) (0, 0) Q 146 [.ref r0, .int x1, .int x2, .int x3] [.int (w 0)] μ
      exact g_retz (by decide +kernel) rfl (Or.inl rfl) h
    · replace h := h.2 hc
      show G Γ m_MO_isWhole (d + 1) (0, 0) Q 131 [.ref r0, .int x1, .int x2, .int x3] [] μ
      obtain ⟨ib1, h⟩ := h
      refine run_ok (pc' := 138) [(.iload_n 2, 0, 0, 0), (.aload_n 0, 0, 0, 0), (.getfield 40, 11, 19, 2), (.iconst 0, 0, 0, 0), (.iaload, 0, 0, 0)] _ _ _ _ (by decide +kernel) ?_
      show _ ∧ (∃ _, _ ∧ (_ ∧ (_)))
      refine ⟨o_r0_11, r0_19, e_r0_19, ib1, ?_⟩
      show G Γ m_MO_isWhole (d + 1) (0, 0) Q 138 [.ref r0, .int x1, .int x2, .int x3] [.int (xI μ r0_19 (w 0).toNatClampNeg), .int x2] μ
      refine g_icmp_gt (pc' := 145) (off := 7) (by decide) (by decide +kernel) (fun hc => ?_) (fun hc => ?_)
      · replace h := h.1 hc
        show G Γ m_MO_isWhole (d + 1) (0, 0) Q 145 [.ref r0, .int x1, .int x2, .int x3] [] μ
        refine run_ok (pc' := 146) [(.iconst 0, 0, 0, 0)] _ _ _ _ (by decide +kernel) ?_
        show G Γ m_MO_isWhole (d + 1) (0, 0) Q 146 [.ref r0, .int x1, .int x2, .int x3] [.int (w 0)] μ
        exact g_retz (by decide +kernel) rfl (Or.inl rfl) h
      · replace h := h.2 hc
        show G Γ m_MO_isWhole (d + 1) (0, 0) Q 141 [.ref r0, .int x1, .int x2, .int x3] [] μ
        refine run_ok (pc' := 146) [(.iconst 1, 0, 0, 0), (.goto 4, 0, 0, 0)] _ _ _ _ (by decide +kernel) ?_
        show G Γ m_MO_isWhole (d + 1) (0, 0) Q 146 [.ref r0, .int x1, .int x2, .int x3] [.int (w 1)] μ
        exact g_retz (by decide +kernel) rfl (Or.inr rfl) h
  · replace h := h.1 hc
    show G Γ m_MO_isWhole (d + 1) (0, 0) Q 83 [.ref r0, .int x1, .int x2, .int x3] [] μ
    refine run_ok (pc' := 84) [(.iload_n 1, 0, 0, 0)] _ _ _ _ (by decide +kernel) ?_
    show G Γ m_MO_isWhole (d + 1) (0, 0) Q 84 [.ref r0, .int x1, .int x2, .int x3] [.int x1] μ
    refine g_ifz_eq (pc' := 106) (off := 22) (by decide) (by decide +kernel) (fun hc => ?_) (fun hc => ?_)
    · replace h := h.1 hc
      show G Γ m_MO_isWhole (d + 1) (0, 0) Q 106 [.ref r0, .int x1, .int x2, .int x3] [] μ
      obtain ⟨ib2, h⟩ := h
      refine run_ok (pc' := 75) [(.iconst 0, 0, 0, 0), (.istore_n 1, 0, 0, 0), (.iload_n 2, 0, 0, 0), (.aload_n 0, 0, 0, 0), (.getfield 49, 11, 22, 2), (.iconst 4, 0, 0, 0), (.iload_n 3, 0, 0, 0), (.imul, 0, 0, 0), (.iconst 1, 0, 0, 0), (.iadd, 0, 0, 0), (.iaload, 0, 0, 0), (.iadd, 0, 0, 0), (.istore_n 2, 0, 0, 0), (.iinc 3 1, 0, 0, 0), (.goto (-49), 0, 0, 0)] _ _ _ _ (by decide +kernel) ?_
      show _ ∧ (∃ _, _ ∧ (_ ∧ (_)))
      refine ⟨o_r0_11, r0_22, e_r0_22, ib2, ?_⟩
      show G Γ m_MO_isWhole (d + 1) (0, 0) Q 75 [.ref r0, .int (w 0), .int (x2 + (xI μ r0_22 (((w 4) * x3) + (w 1)).toNatClampNeg)), .int (x3 + w 1)] [] μ
      exact h
    · replace h := h.2 hc
      show G Γ m_MO_isWhole (d + 1) (0, 0) Q 87 [.ref r0, .int x1, .int x2, .int x3] [] μ
      obtain ⟨ib3, h⟩ := h
      refine run_ok (pc' := 99) [(.aload_n 0, 0, 0, 0), (.getfield 49, 11, 22, 2), (.iconst 4, 0, 0, 0), (.iload_n 3, 0, 0, 0), (.imul, 0, 0, 0), (.iaload, 0, 0, 0), (.aload_n 0, 0, 0, 0), (.getfield 258, 11, 26, 0)] _ _ _ _ (by decide +kernel) ?_
      show _ ∧ (∃ _, _ ∧ (_ ∧ (_ ∧ (_))))
      refine ⟨o_r0_11, r0_22, e_r0_22, ib3, o_r0_11, ?_⟩
      show G Γ m_MO_isWhole (d + 1) (0, 0) Q 99 [.ref r0, .int x1, .int x2, .int x3] [.int (xI μ r0 26), .int (xI μ r0_22 ((w 4) * x3).toNatClampNeg)] μ
      refine g_icmp_ge (pc' := 106) (off := 7) (by decide) (by decide +kernel) (fun hc => ?_) (fun hc => ?_)
      · replace h := h.2 hc
        show G Γ m_MO_isWhole (d + 1) (0, 0) Q 106 [.ref r0, .int x1, .int x2, .int x3] [] μ
        obtain ⟨ib4, h⟩ := h
        refine run_ok (pc' := 75) [(.iconst 0, 0, 0, 0), (.istore_n 1, 0, 0, 0), (.iload_n 2, 0, 0, 0), (.aload_n 0, 0, 0, 0), (.getfield 49, 11, 22, 2), (.iconst 4, 0, 0, 0), (.iload_n 3, 0, 0, 0), (.imul, 0, 0, 0), (.iconst 1, 0, 0, 0), (.iadd, 0, 0, 0), (.iaload, 0, 0, 0), (.iadd, 0, 0, 0), (.istore_n 2, 0, 0, 0), (.iinc 3 1, 0, 0, 0), (.goto (-49), 0, 0, 0)] _ _ _ _ (by decide +kernel) ?_
        show _ ∧ (∃ _, _ ∧ (_ ∧ (_)))
        refine ⟨o_r0_11, r0_22, e_r0_22, ib4, ?_⟩
        show G Γ m_MO_isWhole (d + 1) (0, 0) Q 75 [.ref r0, .int (w 0), .int (x2 + (xI μ r0_22 (((w 4) * x3) + (w 1)).toNatClampNeg)), .int (x3 + w 1)] [] μ
        exact h
      · replace h := h.1 hc
        show G Γ m_MO_isWhole (d + 1) (0, 0) Q 102 [.ref r0, .int x1, .int x2, .int x3] [] μ
        obtain ⟨ib5, h⟩ := h
        refine run_ok (pc' := 75) [(.iconst 1, 0, 0, 0), (.goto 4, 0, 0, 0), (.istore_n 1, 0, 0, 0), (.iload_n 2, 0, 0, 0), (.aload_n 0, 0, 0, 0), (.getfield 49, 11, 22, 2), (.iconst 4, 0, 0, 0), (.iload_n 3, 0, 0, 0), (.imul, 0, 0, 0), (.iconst 1, 0, 0, 0), (.iadd, 0, 0, 0), (.iaload, 0, 0, 0), (.iadd, 0, 0, 0), (.istore_n 2, 0, 0, 0), (.iinc 3 1, 0, 0, 0), (.goto (-49), 0, 0, 0)] _ _ _ _ (by decide +kernel) ?_
        show _ ∧ (∃ _, _ ∧ (_ ∧ (_)))
        refine ⟨o_r0_11, r0_22, e_r0_22, ib5, ?_⟩
        show G Γ m_MO_isWhole (d + 1) (0, 0) Q 75 [.ref r0, .int (w 1), .int (x2 + (xI μ r0_22 (((w 4) * x3) + (w 1)).toNatClampNeg)), .int (x3 + w 1)] [] μ
        exact h
/-! FrostBoxModel readHouse()V -/
set_option maxRecDepth 100000 in
theorem lk_11_277 : LkV 11 277 m_MO_isWhole 0 := ⟨lc_MO_isWhole, lwG_in (List.mem_of_getElem? (i := 1506) rfl) rfl, lwG_in (List.mem_of_getElem? (i := 1508) rfl) rfl, lwG_in (List.mem_of_getElem? (i := 60) rfl) rfl⟩
set_option maxRecDepth 100000 in
theorem lk_11_274 : LkV 11 274 m_MO_readClause 0 := ⟨lc_MO_readClause, lwG_in (List.mem_of_getElem? (i := 1415) rfl) rfl, lwG_in (List.mem_of_getElem? (i := 1417) rfl) rfl, lwG_in (List.mem_of_getElem? (i := 53) rfl) rfl⟩
set_option maxRecDepth 100000 in
theorem B_MO_readHouse_0 {Γ : XG} {d : Nat} {Q : Option Value → XM → Prop} {r0 r0_1 : Nat} {μ : XM} (o_r0_11 : ob μ r0 11) (e_r0_1 : xR μ r0 1 = some r0_1) (h : Call Γ m_MO_starts d [.ref r0, .ref r0_1, .int (w 0), .int (xI μ r0 6)] μ (KV (fun μ1 => ∀ μ2, μ2 = sI μ1 r0 26 (w 0) → ∀ μ3, μ3 = sI μ2 r0 27 (w 0) → ∀ μ4, μ4 = sI μ3 r0 29 (w 0) → G Γ m_MO_readHouse (d + 1) (0, 0) Q 30 [.ref r0, .int (w 0)] [] μ4))) : G Γ m_MO_readHouse (d + 1) (0, 0) Q 0 [.ref r0] [] μ := by
  refine run_ok (pc' := 10) [(.aload_n 0, 0, 0, 0), (.aload_n 0, 0, 0, 0), (.getfield 9, 11, 1, 2), (.iconst 0, 0, 0, 0), (.aload_n 0, 0, 0, 0), (.getfield 122, 11, 6, 0)] _ _ _ _ (by decide +kernel) ?_
  show _ ∧ (∃ _, _ ∧ (_ ∧ (_)))
  refine ⟨o_r0_11, r0_1, e_r0_1, o_r0_11, ?_⟩
  show G Γ m_MO_readHouse (d + 1) (0, 0) Q 10 [.ref r0] [.int (xI μ r0 6), .int (w 0), .ref r0_1, .ref r0] μ
  refine g_invV (M' := m_MO_starts) (b1 := 0) (b2 := 0) (As := [.ref r0_1, .int (w 0), .int (xI μ r0 6)]) (a := r0) (st := []) lk_11_220 (by decide +kernel) rfl (dk_MO_starts d) (Nat.le_of_ble_eq_true rfl) (Or.inl ⟨11, o_r0_11, rfl⟩) h ?_
  rintro _ μ1 ⟨rfl, h⟩ hn1
  show G Γ m_MO_readHouse (d + 1) (0, 0) Q 13 [.ref r0] [] μ1
  refine run_ok (pc' := 18) [(.aload_n 0, 0, 0, 0), (.iconst 0, 0, 0, 0), (.putfield 258, 11, 26, 0)] _ _ _ _ (by decide +kernel) ?_
  show _ ∧ (_)
  refine ⟨((o_r0_11).mono hn1), ?_⟩
  show G Γ m_MO_readHouse (d + 1) (0, 0) Q 18 [.ref r0] [] (sI μ1 r0 26 (w 0))
  obtain ⟨μ2, em2⟩ : ∃ m : XM, m = sI μ1 r0 26 (w 0) := ⟨_, rfl⟩
  replace h := h μ2 em2
  have hm2 : xN μ1 ≤ xN μ2 := by rw [em2]; exact Nat.le_refl _
  rw [← em2]
  refine run_ok (pc' := 23) [(.aload_n 0, 0, 0, 0), (.iconst 0, 0, 0, 0), (.putfield 261, 11, 27, 0)] _ _ _ _ (by decide +kernel) ?_
  show _ ∧ (_)
  refine ⟨(((o_r0_11).mono hn1).mono hm2), ?_⟩
  show G Γ m_MO_readHouse (d + 1) (0, 0) Q 23 [.ref r0] [] (sI μ2 r0 27 (w 0))
  obtain ⟨μ3, em3⟩ : ∃ m : XM, m = sI μ2 r0 27 (w 0) := ⟨_, rfl⟩
  replace h := h μ3 em3
  have hm3 : xN μ2 ≤ xN μ3 := by rw [em3]; exact Nat.le_refl _
  rw [← em3]
  refine run_ok (pc' := 28) [(.aload_n 0, 0, 0, 0), (.iconst 0, 0, 0, 0), (.putfield 255, 11, 29, 3)] _ _ _ _ (by decide +kernel) ?_
  show _ ∧ (_ ∧ (_))
  refine ⟨((((o_r0_11).mono hn1).mono hm2).mono hm3), Or.inl rfl, ?_⟩
  show G Γ m_MO_readHouse (d + 1) (0, 0) Q 28 [.ref r0] [] (sI μ3 r0 29 (w 0))
  obtain ⟨μ4, em4⟩ : ∃ m : XM, m = sI μ3 r0 29 (w 0) := ⟨_, rfl⟩
  replace h := h μ4 em4
  have hm4 : xN μ3 ≤ xN μ4 := by rw [em4]; exact Nat.le_refl _
  rw [← em4]
  refine run_ok (pc' := 30) [(.iconst 0, 0, 0, 0), (.istore_n 1, 0, 0, 0)] _ _ _ _ (by decide +kernel) ?_
  show G Γ m_MO_readHouse (d + 1) (0, 0) Q 30 [.ref r0, .int (w 0)] [] μ4
  exact h
set_option maxRecDepth 100000 in
theorem B_MO_readHouse_30 {Γ : XG} {d : Nat} {Q : Option Value → XM → Prop} {r0 r0_19 : Nat} {x1 : Int32} {μ : XM} (o_r0_11 : ob μ r0 11) (e_r0_19 : xR μ r0 19 = some r0_19) (h : ((x1 < w 4 → Call Γ m_MO_usual d [.int (w 115), .int x1] μ (KI (fun v1 μ1 => inS μ1 0 r0_19 x1 ∧ ∀ μ3, μ3 = sI μ1 r0_19 x1.toNatClampNeg v1 → G Γ m_MO_readHouse (d + 1) (0, 0) Q 30 [.ref r0, .int (x1 + w 1)] [] μ3))) ∧ (¬ x1 < w 4 → G Γ m_MO_readHouse (d + 1) (0, 0) Q 55 [.ref r0, .int (w 1)] [] μ))) : G Γ m_MO_readHouse (d + 1) (0, 0) Q 30 [.ref r0, .int x1] [] μ := by
  refine run_ok (pc' := 32) [(.iload_n 1, 0, 0, 0), (.iconst 4, 0, 0, 0)] _ _ _ _ (by decide +kernel) ?_
  show G Γ m_MO_readHouse (d + 1) (0, 0) Q 32 [.ref r0, .int x1] [.int (w 4), .int x1] μ
  refine g_icmp_ge (pc' := 53) (off := 21) (by decide) (by decide +kernel) (fun hc => ?_) (fun hc => ?_)
  · replace h := h.2 hc
    show G Γ m_MO_readHouse (d + 1) (0, 0) Q 53 [.ref r0, .int x1] [] μ
    refine run_ok (pc' := 55) [(.iconst 1, 0, 0, 0), (.istore_n 1, 0, 0, 0)] _ _ _ _ (by decide +kernel) ?_
    show G Γ m_MO_readHouse (d + 1) (0, 0) Q 55 [.ref r0, .int (w 1)] [] μ
    exact h
  · replace h := h.1 hc
    show G Γ m_MO_readHouse (d + 1) (0, 0) Q 35 [.ref r0, .int x1] [] μ
    refine run_ok (pc' := 43) [(.aload_n 0, 0, 0, 0), (.getfield 40, 11, 19, 2), (.iload_n 1, 0, 0, 0), (.bipush 115, 0, 0, 0), (.iload_n 1, 0, 0, 0)] _ _ _ _ (by decide +kernel) ?_
    show _ ∧ (∃ _, _ ∧ (_))
    refine ⟨o_r0_11, r0_19, e_r0_19, ?_⟩
    show G Γ m_MO_readHouse (d + 1) (0, 0) Q 43 [.ref r0, .int x1] [.int x1, .int (w 115), .int x1, .ref r0_19] μ
    refine g_invS (M' := m_MO_usual) (b1 := 0) (b2 := 0) (As := [.int (w 115), .int x1]) (st := [.int x1, .ref r0_19]) lk_11_234 (by decide +kernel) rfl (dk_MO_usual d) (Nat.le_of_ble_eq_true rfl) h ?_
    rintro _ μ1 ⟨v1, rfl, h⟩ hn1
    show G Γ m_MO_readHouse (d + 1) (0, 0) Q 46 [.ref r0, .int x1] [.int v1, .int x1, .ref r0_19] μ1
    obtain ⟨is2, h⟩ := h
    refine run_ok (pc' := 47) [(.iastore, 0, 0, 0)] _ _ _ _ (by decide +kernel) ?_
    show _ ∧ (_)
    refine ⟨is2, ?_⟩
    show G Γ m_MO_readHouse (d + 1) (0, 0) Q 47 [.ref r0, .int x1] [] (sI μ1 r0_19 x1.toNatClampNeg v1)
    obtain ⟨μ3, em3⟩ : ∃ m : XM, m = sI μ1 r0_19 x1.toNatClampNeg v1 := ⟨_, rfl⟩
    replace h := h μ3 em3
    have hm3 : xN μ1 ≤ xN μ3 := by rw [em3]; exact Nat.le_refl _
    rw [← em3]
    refine run_ok (pc' := 30) [(.iinc 1 1, 0, 0, 0), (.goto (-20), 0, 0, 0)] _ _ _ _ (by decide +kernel) ?_
    show G Γ m_MO_readHouse (d + 1) (0, 0) Q 30 [.ref r0, .int (x1 + w 1)] [] μ3
    exact h
set_option maxRecDepth 100000 in
theorem B_MO_readHouse_55 {Γ : XG} {d : Nat} {Q : Option Value → XM → Prop} {r0 : Nat} {x1 : Int32} {μ : XM} (o_r0_11 : ob μ r0 11) (h : ((x1 = w 0 → ((xI μ r0 11 = w (-1) → Call Γ m_MO_look d [.ref r0] μ (KI (fun v1 μ1 => ((v1 = w (-1) → Call Γ m_MO_isWhole d [.ref r0] μ1 (KI (fun v3 μ3 => ((v3 = w 0 → Call Γ m_MO_fails d [.ref r0] μ3 (KI (fun v4 μ4 => Q none μ4))) ∧ (¬ v3 = w 0 → Q none μ3))))) ∧ (¬ v1 = w (-1) → Call Γ m_MO_fails d [.ref r0] μ1 (KI (fun v2 μ2 => Q none μ2))))))) ∧ (¬ xI μ r0 11 = w (-1) → Q none μ))) ∧ (¬ x1 = w 0 → ((xI μ r0 11 = w (-1) → Call Γ m_MO_readClause d [.ref r0] μ (KV (fun μ9 => ((xI μ9 r0 11 = w (-1) → Call Γ m_MO_look d [.ref r0] μ9 (KI (fun v11 μ11 => ((v11 = w 59 → ((w 1 = w 0 → G Γ m_MO_readHouse (d + 1) (0, 0) Q 55 [.ref r0, .int (w 1)] [] μ11) ∧ (¬ w 1 = w 0 → ∀ μ13, μ13 = sI μ11 r0 10 ((xI μ11 r0 10) + (w 1)) → G Γ m_MO_readHouse (d + 1) (0, 0) Q 55 [.ref r0, .int (w 1)] [] μ13))) ∧ (¬ v11 = w 59 → ((w 0 = w 0 → G Γ m_MO_readHouse (d + 1) (0, 0) Q 55 [.ref r0, .int (w 0)] [] μ11) ∧ (¬ w 0 = w 0 → ∀ μ12, μ12 = sI μ11 r0 10 ((xI μ11 r0 10) + (w 1)) → G Γ m_MO_readHouse (d + 1) (0, 0) Q 55 [.ref r0, .int (w 0)] [] μ12))))))) ∧ (¬ xI μ9 r0 11 = w (-1) → ((w 0 = w 0 → G Γ m_MO_readHouse (d + 1) (0, 0) Q 55 [.ref r0, .int (w 0)] [] μ9) ∧ (¬ w 0 = w 0 → ∀ μ10, μ10 = sI μ9 r0 10 ((xI μ9 r0 10) + (w 1)) → G Γ m_MO_readHouse (d + 1) (0, 0) Q 55 [.ref r0, .int (w 0)] [] μ10))))))) ∧ (¬ xI μ r0 11 = w (-1) → ((xI μ r0 11 = w (-1) → Call Γ m_MO_look d [.ref r0] μ (KI (fun v5 μ5 => ((v5 = w (-1) → Call Γ m_MO_isWhole d [.ref r0] μ5 (KI (fun v7 μ7 => ((v7 = w 0 → Call Γ m_MO_fails d [.ref r0] μ7 (KI (fun v8 μ8 => Q none μ8))) ∧ (¬ v7 = w 0 → Q none μ7))))) ∧ (¬ v5 = w (-1) → Call Γ m_MO_fails d [.ref r0] μ5 (KI (fun v6 μ6 => Q none μ6))))))) ∧ (¬ xI μ r0 11 = w (-1) → Q none μ))))))) : G Γ m_MO_readHouse (d + 1) (0, 0) Q 55 [.ref r0, .int x1] [] μ := by
  refine run_ok (pc' := 56) [(.iload_n 1, 0, 0, 0)] _ _ _ _ (by decide +kernel) ?_
  show G Γ m_MO_readHouse (d + 1) (0, 0) Q 56 [.ref r0, .int x1] [.int x1] μ
  refine g_ifz_eq (pc' := 111) (off := 55) (by decide) (by decide +kernel) (fun hc => ?_) (fun hc => ?_)
  · replace h := h.1 hc
    show G Γ m_MO_readHouse (d + 1) (0, 0) Q 111 [.ref r0, .int x1] [] μ
    refine run_ok (pc' := 116) [(.aload_n 0, 0, 0, 0), (.getfield 141, 11, 11, 0), (.iconst (-1), 0, 0, 0)] _ _ _ _ (by decide +kernel) ?_
    show _ ∧ (_)
    refine ⟨o_r0_11, ?_⟩
    show G Γ m_MO_readHouse (d + 1) (0, 0) Q 116 [.ref r0, .int x1] [.int (w (-1)), .int (xI μ r0 11)] μ
    refine g_icmp_ne (pc' := 139) (off := 23) (by decide) (by decide +kernel) (fun hc => ?_) (fun hc => ?_)
    · replace h := h.2 hc
      show G Γ m_MO_readHouse (d + 1) (0, 0) Q 139 [.ref r0, .int x1] [] μ
      exact g_retv (by decide +kernel) rfl h
    · replace h := h.1 hc
      show G Γ m_MO_readHouse (d + 1) (0, 0) Q 119 [.ref r0, .int x1] [] μ
      refine run_ok (pc' := 120) [(.aload_n 0, 0, 0, 0)] _ _ _ _ (by decide +kernel) ?_
      show G Γ m_MO_readHouse (d + 1) (0, 0) Q 120 [.ref r0, .int x1] [.ref r0] μ
      refine g_invV (M' := m_MO_look) (b1 := 0) (b2 := 0) (As := []) (a := r0) (st := []) lk_11_151 (by decide +kernel) rfl (dk_MO_look d) (Nat.le_of_ble_eq_true rfl) (Or.inl ⟨11, o_r0_11, rfl⟩) h ?_
      rintro _ μ1 ⟨v1, rfl, h⟩ hn1
      show G Γ m_MO_readHouse (d + 1) (0, 0) Q 123 [.ref r0, .int x1] [.int v1] μ1
      refine run_ok (pc' := 124) [(.iconst (-1), 0, 0, 0)] _ _ _ _ (by decide +kernel) ?_
      show G Γ m_MO_readHouse (d + 1) (0, 0) Q 124 [.ref r0, .int x1] [.int (w (-1)), .int v1] μ1
      refine g_icmp_ne (pc' := 134) (off := 10) (by decide) (by decide +kernel) (fun hc => ?_) (fun hc => ?_)
      · replace h := h.2 hc
        show G Γ m_MO_readHouse (d + 1) (0, 0) Q 134 [.ref r0, .int x1] [] μ1
        refine run_ok (pc' := 135) [(.aload_n 0, 0, 0, 0)] _ _ _ _ (by decide +kernel) ?_
        show G Γ m_MO_readHouse (d + 1) (0, 0) Q 135 [.ref r0, .int x1] [.ref r0] μ1
        refine g_invV (M' := m_MO_fails) (b1 := 0) (b2 := 0) (As := []) (a := r0) (st := []) lk_11_147 (by decide +kernel) rfl (dk_MO_fails d) (Nat.le_of_ble_eq_true rfl) (Or.inl ⟨11, ((o_r0_11).mono hn1), rfl⟩) h ?_
        rintro _ μ2 ⟨v2, rfl, h⟩ hn2
        show G Γ m_MO_readHouse (d + 1) (0, 0) Q 138 [.ref r0, .int x1] [.int v2] μ2
        refine run_ok (pc' := 139) [(.pop, 0, 0, 0)] _ _ _ _ (by decide +kernel) ?_
        show G Γ m_MO_readHouse (d + 1) (0, 0) Q 139 [.ref r0, .int x1] [] μ2
        exact g_retv (by decide +kernel) rfl h
      · replace h := h.1 hc
        show G Γ m_MO_readHouse (d + 1) (0, 0) Q 127 [.ref r0, .int x1] [] μ1
        refine run_ok (pc' := 128) [(.aload_n 0, 0, 0, 0)] _ _ _ _ (by decide +kernel) ?_
        show G Γ m_MO_readHouse (d + 1) (0, 0) Q 128 [.ref r0, .int x1] [.ref r0] μ1
        refine g_invV (M' := m_MO_isWhole) (b1 := 0) (b2 := 0) (As := []) (a := r0) (st := []) lk_11_277 (by decide +kernel) rfl (dk_MO_isWhole d) (Nat.le_of_ble_eq_true rfl) (Or.inl ⟨11, ((o_r0_11).mono hn1), rfl⟩) h ?_
        rintro _ μ3 ⟨v3, rfl, h⟩ hn3
        show G Γ m_MO_readHouse (d + 1) (0, 0) Q 131 [.ref r0, .int x1] [.int v3] μ3
        refine g_ifz_ne (pc' := 139) (off := 8) (by decide) (by decide +kernel) (fun hc => ?_) (fun hc => ?_)
        · replace h := h.2 hc
          show G Γ m_MO_readHouse (d + 1) (0, 0) Q 139 [.ref r0, .int x1] [] μ3
          exact g_retv (by decide +kernel) rfl h
        · replace h := h.1 hc
          show G Γ m_MO_readHouse (d + 1) (0, 0) Q 134 [.ref r0, .int x1] [] μ3
          refine run_ok (pc' := 135) [(.aload_n 0, 0, 0, 0)] _ _ _ _ (by decide +kernel) ?_
          show G Γ m_MO_readHouse (d + 1) (0, 0) Q 135 [.ref r0, .int x1] [.ref r0] μ3
          refine g_invV (M' := m_MO_fails) (b1 := 0) (b2 := 0) (As := []) (a := r0) (st := []) lk_11_147 (by decide +kernel) rfl (dk_MO_fails d) (Nat.le_of_ble_eq_true rfl) (Or.inl ⟨11, (((o_r0_11).mono hn1).mono hn3), rfl⟩) h ?_
          rintro _ μ4 ⟨v4, rfl, h⟩ hn4
          show G Γ m_MO_readHouse (d + 1) (0, 0) Q 138 [.ref r0, .int x1] [.int v4] μ4
          refine run_ok (pc' := 139) [(.pop, 0, 0, 0)] _ _ _ _ (by decide +kernel) ?_
          show G Γ m_MO_readHouse (d + 1) (0, 0) Q 139 [.ref r0, .int x1] [] μ4
          exact g_retv (by decide +kernel) rfl h
  · replace h := h.2 hc
    show G Γ m_MO_readHouse (d + 1) (0, 0) Q 59 [.ref r0, .int x1] [] μ
    refine run_ok (pc' := 64) [(.aload_n 0, 0, 0, 0), (.getfield 141, 11, 11, 0), (.iconst (-1), 0, 0, 0)] _ _ _ _ (by decide +kernel) ?_
    show _ ∧ (_)
    refine ⟨o_r0_11, ?_⟩
    show G Γ m_MO_readHouse (d + 1) (0, 0) Q 64 [.ref r0, .int x1] [.int (w (-1)), .int (xI μ r0 11)] μ
    refine g_icmp_ne (pc' := 111) (off := 47) (by decide) (by decide +kernel) (fun hc => ?_) (fun hc => ?_)
    · replace h := h.2 hc
      show G Γ m_MO_readHouse (d + 1) (0, 0) Q 111 [.ref r0, .int x1] [] μ
      refine run_ok (pc' := 116) [(.aload_n 0, 0, 0, 0), (.getfield 141, 11, 11, 0), (.iconst (-1), 0, 0, 0)] _ _ _ _ (by decide +kernel) ?_
      show _ ∧ (_)
      refine ⟨o_r0_11, ?_⟩
      show G Γ m_MO_readHouse (d + 1) (0, 0) Q 116 [.ref r0, .int x1] [.int (w (-1)), .int (xI μ r0 11)] μ
      refine g_icmp_ne (pc' := 139) (off := 23) (by decide) (by decide +kernel) (fun hc => ?_) (fun hc => ?_)
      · replace h := h.2 hc
        show G Γ m_MO_readHouse (d + 1) (0, 0) Q 139 [.ref r0, .int x1] [] μ
        exact g_retv (by decide +kernel) rfl h
      · replace h := h.1 hc
        show G Γ m_MO_readHouse (d + 1) (0, 0) Q 119 [.ref r0, .int x1] [] μ
        refine run_ok (pc' := 120) [(.aload_n 0, 0, 0, 0)] _ _ _ _ (by decide +kernel) ?_
        show G Γ m_MO_readHouse (d + 1) (0, 0) Q 120 [.ref r0, .int x1] [.ref r0] μ
        refine g_invV (M' := m_MO_look) (b1 := 0) (b2 := 0) (As := []) (a := r0) (st := []) lk_11_151 (by decide +kernel) rfl (dk_MO_look d) (Nat.le_of_ble_eq_true rfl) (Or.inl ⟨11, o_r0_11, rfl⟩) h ?_
        rintro _ μ5 ⟨v5, rfl, h⟩ hn5
        show G Γ m_MO_readHouse (d + 1) (0, 0) Q 123 [.ref r0, .int x1] [.int v5] μ5
        refine run_ok (pc' := 124) [(.iconst (-1), 0, 0, 0)] _ _ _ _ (by decide +kernel) ?_
        show G Γ m_MO_readHouse (d + 1) (0, 0) Q 124 [.ref r0, .int x1] [.int (w (-1)), .int v5] μ5
        refine g_icmp_ne (pc' := 134) (off := 10) (by decide) (by decide +kernel) (fun hc => ?_) (fun hc => ?_)
        · replace h := h.2 hc
          show G Γ m_MO_readHouse (d + 1) (0, 0) Q 134 [.ref r0, .int x1] [] μ5
          refine run_ok (pc' := 135) [(.aload_n 0, 0, 0, 0)] _ _ _ _ (by decide +kernel) ?_
          show G Γ m_MO_readHouse (d + 1) (0, 0) Q 135 [.ref r0, .int x1] [.ref r0] μ5
          refine g_invV (M' := m_MO_fails) (b1 := 0) (b2 := 0) (As := []) (a := r0) (st := []) lk_11_147 (by decide +kernel) rfl (dk_MO_fails d) (Nat.le_of_ble_eq_true rfl) (Or.inl ⟨11, ((o_r0_11).mono hn5), rfl⟩) h ?_
          rintro _ μ6 ⟨v6, rfl, h⟩ hn6
          show G Γ m_MO_readHouse (d + 1) (0, 0) Q 138 [.ref r0, .int x1] [.int v6] μ6
          refine run_ok (pc' := 139) [(.pop, 0, 0, 0)] _ _ _ _ (by decide +kernel) ?_
          show G Γ m_MO_readHouse (d + 1) (0, 0) Q 139 [.ref r0, .int x1] [] μ6
          exact g_retv (by decide +kernel) rfl h
        · replace h := h.1 hc
          show G Γ m_MO_readHouse (d + 1) (0, 0) Q 127 [.ref r0, .int x1] [] μ5
          refine run_ok (pc' := 128) [(.aload_n 0, 0, 0, 0)] _ _ _ _ (by decide +kernel) ?_
          show G Γ m_MO_readHouse (d + 1) (0, 0) Q 128 [.ref r0, .int x1] [.ref r0] μ5
          refine g_invV (M' := m_MO_isWhole) (b1 := 0) (b2 := 0) (As := []) (a := r0) (st := []) lk_11_277 (by decide +kernel) rfl (dk_MO_isWhole d) (Nat.le_of_ble_eq_true rfl) (Or.inl ⟨11, ((o_r0_11).mono hn5), rfl⟩) h ?_
          rintro _ μ7 ⟨v7, rfl, h⟩ hn7
          show G Γ m_MO_readHouse (d + 1) (0, 0) Q 131 [.ref r0, .int x1] [.int v7] μ7
          refine g_ifz_ne (pc' := 139) (off := 8) (by decide) (by decide +kernel) (fun hc => ?_) (fun hc => ?_)
          · replace h := h.2 hc
            show G Γ m_MO_readHouse (d + 1) (0, 0) Q 139 [.ref r0, .int x1] [] μ7
            exact g_retv (by decide +kernel) rfl h
          · replace h := h.1 hc
            show G Γ m_MO_readHouse (d + 1) (0, 0) Q 134 [.ref r0, .int x1] [] μ7
            refine run_ok (pc' := 135) [(.aload_n 0, 0, 0, 0)] _ _ _ _ (by decide +kernel) ?_
            show G Γ m_MO_readHouse (d + 1) (0, 0) Q 135 [.ref r0, .int x1] [.ref r0] μ7
            refine g_invV (M' := m_MO_fails) (b1 := 0) (b2 := 0) (As := []) (a := r0) (st := []) lk_11_147 (by decide +kernel) rfl (dk_MO_fails d) (Nat.le_of_ble_eq_true rfl) (Or.inl ⟨11, (((o_r0_11).mono hn5).mono hn7), rfl⟩) h ?_
            rintro _ μ8 ⟨v8, rfl, h⟩ hn8
            show G Γ m_MO_readHouse (d + 1) (0, 0) Q 138 [.ref r0, .int x1] [.int v8] μ8
            refine run_ok (pc' := 139) [(.pop, 0, 0, 0)] _ _ _ _ (by decide +kernel) ?_
            show G Γ m_MO_readHouse (d + 1) (0, 0) Q 139 [.ref r0, .int x1] [] μ8
            exact g_retv (by decide +kernel) rfl h
    · replace h := h.1 hc
      show G Γ m_MO_readHouse (d + 1) (0, 0) Q 67 [.ref r0, .int x1] [] μ
      refine run_ok (pc' := 68) [(.aload_n 0, 0, 0, 0)] _ _ _ _ (by decide +kernel) ?_
      show G Γ m_MO_readHouse (d + 1) (0, 0) Q 68 [.ref r0, .int x1] [.ref r0] μ
      refine g_invV (M' := m_MO_readClause) (b1 := 0) (b2 := 0) (As := []) (a := r0) (st := []) lk_11_274 (by decide +kernel) rfl (dk_MO_readClause d) (Nat.le_of_ble_eq_true rfl) (Or.inl ⟨11, o_r0_11, rfl⟩) h ?_
      rintro _ μ9 ⟨rfl, h⟩ hn9
      show G Γ m_MO_readHouse (d + 1) (0, 0) Q 71 [.ref r0, .int x1] [] μ9
      refine run_ok (pc' := 76) [(.aload_n 0, 0, 0, 0), (.getfield 141, 11, 11, 0), (.iconst (-1), 0, 0, 0)] _ _ _ _ (by decide +kernel) ?_
      show _ ∧ (_)
      refine ⟨((o_r0_11).mono hn9), ?_⟩
      show G Γ m_MO_readHouse (d + 1) (0, 0) Q 76 [.ref r0, .int x1] [.int (w (-1)), .int (xI μ9 r0 11)] μ9
      refine g_icmp_ne (pc' := 92) (off := 16) (by decide) (by decide +kernel) (fun hc => ?_) (fun hc => ?_)
      · replace h := h.2 hc
        show G Γ m_MO_readHouse (d + 1) (0, 0) Q 92 [.ref r0, .int x1] [] μ9
        refine run_ok (pc' := 95) [(.iconst 0, 0, 0, 0), (.istore_n 1, 0, 0, 0), (.iload_n 1, 0, 0, 0)] _ _ _ _ (by decide +kernel) ?_
        show G Γ m_MO_readHouse (d + 1) (0, 0) Q 95 [.ref r0, .int (w 0)] [.int (w 0)] μ9
        refine g_ifz_eq (pc' := 55) (off := (-40)) (by decide) (by decide +kernel) (fun hc => ?_) (fun hc => ?_)
        · replace h := h.1 hc
          show G Γ m_MO_readHouse (d + 1) (0, 0) Q 55 [.ref r0, .int (w 0)] [] μ9
          exact h
        · replace h := h.2 hc
          show G Γ m_MO_readHouse (d + 1) (0, 0) Q 98 [.ref r0, .int (w 0)] [] μ9
          refine run_ok (pc' := 108) [(.aload_n 0, 0, 0, 0), (.dup, 0, 0, 0), (.getfield 132, 11, 10, 0), (.iconst 1, 0, 0, 0), (.iadd, 0, 0, 0), (.putfield 132, 11, 10, 0)] _ _ _ _ (by decide +kernel) ?_
          show _ ∧ (_ ∧ (_))
          refine ⟨((o_r0_11).mono hn9), ((o_r0_11).mono hn9), ?_⟩
          show G Γ m_MO_readHouse (d + 1) (0, 0) Q 108 [.ref r0, .int (w 0)] [] (sI μ9 r0 10 ((xI μ9 r0 10) + (w 1)))
          obtain ⟨μ10, em10⟩ : ∃ m : XM, m = sI μ9 r0 10 ((xI μ9 r0 10) + (w 1)) := ⟨_, rfl⟩
          replace h := h μ10 em10
          have hm10 : xN μ9 ≤ xN μ10 := by rw [em10]; exact Nat.le_refl _
          rw [← em10]
          refine run_ok (pc' := 55) [(.goto (-53), 0, 0, 0)] _ _ _ _ (by decide +kernel) ?_
          show G Γ m_MO_readHouse (d + 1) (0, 0) Q 55 [.ref r0, .int (w 0)] [] μ10
          exact h
      · replace h := h.1 hc
        show G Γ m_MO_readHouse (d + 1) (0, 0) Q 79 [.ref r0, .int x1] [] μ9
        refine run_ok (pc' := 80) [(.aload_n 0, 0, 0, 0)] _ _ _ _ (by decide +kernel) ?_
        show G Γ m_MO_readHouse (d + 1) (0, 0) Q 80 [.ref r0, .int x1] [.ref r0] μ9
        refine g_invV (M' := m_MO_look) (b1 := 0) (b2 := 0) (As := []) (a := r0) (st := []) lk_11_151 (by decide +kernel) rfl (dk_MO_look d) (Nat.le_of_ble_eq_true rfl) (Or.inl ⟨11, ((o_r0_11).mono hn9), rfl⟩) h ?_
        rintro _ μ11 ⟨v11, rfl, h⟩ hn11
        show G Γ m_MO_readHouse (d + 1) (0, 0) Q 83 [.ref r0, .int x1] [.int v11] μ11
        refine run_ok (pc' := 85) [(.bipush 59, 0, 0, 0)] _ _ _ _ (by decide +kernel) ?_
        show G Γ m_MO_readHouse (d + 1) (0, 0) Q 85 [.ref r0, .int x1] [.int (w 59), .int v11] μ11
        refine g_icmp_ne (pc' := 92) (off := 7) (by decide) (by decide +kernel) (fun hc => ?_) (fun hc => ?_)
        · replace h := h.2 hc
          show G Γ m_MO_readHouse (d + 1) (0, 0) Q 92 [.ref r0, .int x1] [] μ11
          refine run_ok (pc' := 95) [(.iconst 0, 0, 0, 0), (.istore_n 1, 0, 0, 0), (.iload_n 1, 0, 0, 0)] _ _ _ _ (by decide +kernel) ?_
          show G Γ m_MO_readHouse (d + 1) (0, 0) Q 95 [.ref r0, .int (w 0)] [.int (w 0)] μ11
          refine g_ifz_eq (pc' := 55) (off := (-40)) (by decide) (by decide +kernel) (fun hc => ?_) (fun hc => ?_)
          · replace h := h.1 hc
            show G Γ m_MO_readHouse (d + 1) (0, 0) Q 55 [.ref r0, .int (w 0)] [] μ11
            exact h
          · replace h := h.2 hc
            show G Γ m_MO_readHouse (d + 1) (0, 0) Q 98 [.ref r0, .int (w 0)] [] μ11
            refine run_ok (pc' := 108) [(.aload_n 0, 0, 0, 0), (.dup, 0, 0, 0), (.getfield 132, 11, 10, 0), (.iconst 1, 0, 0, 0), (.iadd, 0, 0, 0), (.putfield 132, 11, 10, 0)] _ _ _ _ (by decide +kernel) ?_
            show _ ∧ (_ ∧ (_))
            refine ⟨(((o_r0_11).mono hn9).mono hn11), (((o_r0_11).mono hn9).mono hn11), ?_⟩
            show G Γ m_MO_readHouse (d + 1) (0, 0) Q 108 [.ref r0, .int (w 0)] [] (sI μ11 r0 10 ((xI μ11 r0 10) + (w 1)))
            obtain ⟨μ12, em12⟩ : ∃ m : XM, m = sI μ11 r0 10 ((xI μ11 r0 10) + (w 1)) := ⟨_, rfl⟩
            replace h := h μ12 em12
            have hm12 : xN μ11 ≤ xN μ12 := by rw [em12]; exact Nat.le_refl _
            rw [← em12]
            refine run_ok (pc' := 55) [(.goto (-53), 0, 0, 0)] _ _ _ _ (by decide +kernel) ?_
            show G Γ m_MO_readHouse (d + 1) (0, 0) Q 55 [.ref r0, .int (w 0)] [] μ12
            exact h
        · replace h := h.1 hc
          show G Γ m_MO_readHouse (d + 1) (0, 0) Q 88 [.ref r0, .int x1] [] μ11
          refine run_ok (pc' := 95) [(.iconst 1, 0, 0, 0), (.goto 4, 0, 0, 0), (.istore_n 1, 0, 0, 0), (.iload_n 1, 0, 0, 0)] _ _ _ _ (by decide +kernel) ?_
          show G Γ m_MO_readHouse (d + 1) (0, 0) Q 95 [.ref r0, .int (w 1)] [.int (w 1)] μ11
          refine g_ifz_eq (pc' := 55) (off := (-40)) (by decide) (by decide +kernel) (fun hc => ?_) (fun hc => ?_)
          · replace h := h.1 hc
            show G Γ m_MO_readHouse (d + 1) (0, 0) Q 55 [.ref r0, .int (w 1)] [] μ11
            exact h
          · replace h := h.2 hc
            show G Γ m_MO_readHouse (d + 1) (0, 0) Q 98 [.ref r0, .int (w 1)] [] μ11
            refine run_ok (pc' := 108) [(.aload_n 0, 0, 0, 0), (.dup, 0, 0, 0), (.getfield 132, 11, 10, 0), (.iconst 1, 0, 0, 0), (.iadd, 0, 0, 0), (.putfield 132, 11, 10, 0)] _ _ _ _ (by decide +kernel) ?_
            show _ ∧ (_ ∧ (_))
            refine ⟨(((o_r0_11).mono hn9).mono hn11), (((o_r0_11).mono hn9).mono hn11), ?_⟩
            show G Γ m_MO_readHouse (d + 1) (0, 0) Q 108 [.ref r0, .int (w 1)] [] (sI μ11 r0 10 ((xI μ11 r0 10) + (w 1)))
            obtain ⟨μ13, em13⟩ : ∃ m : XM, m = sI μ11 r0 10 ((xI μ11 r0 10) + (w 1)) := ⟨_, rfl⟩
            replace h := h μ13 em13
            have hm13 : xN μ11 ≤ xN μ13 := by rw [em13]; exact Nat.le_refl _
            rw [← em13]
            refine run_ok (pc' := 55) [(.goto (-53), 0, 0, 0)] _ _ _ _ (by decide +kernel) ?_
            show G Γ m_MO_readHouse (d + 1) (0, 0) Q 55 [.ref r0, .int (w 1)] [] μ13
            exact h
/-! FrostBoxModel digit(I)I -/
set_option maxRecDepth 100000 in
theorem B_MO_digit_0 {Γ : XG} {d : Nat} {Q : Option Value → XM → Prop} {r0 : Nat} {x1 : Int32} {μ : XM} (o_r0_11 : ob μ r0 11) (h : Call Γ m_MO_look d [.ref r0] μ (KI (fun v1 μ1 => Call Γ m_MO_isDigit d [.ref r0] μ1 (KI (fun v2 μ2 => ((v2 = w 0 → Call Γ m_MO_fails d [.ref r0] μ2 (KI (fun v3 μ3 => Q (some (.int (w 0))) μ3))) ∧ (¬ v2 = w 0 → ((x1 < v1 - (w 48) → Call Γ m_MO_fails d [.ref r0] μ2 (KI (fun v5 μ5 => Q (some (.int (w 0))) μ5))) ∧ (¬ x1 < v1 - (w 48) → ∀ μ4, μ4 = sI μ2 r0 10 ((xI μ2 r0 10) + (w 1)) → Q (some (.int (v1 - (w 48)))) μ4))))))))) : G Γ m_MO_digit (d + 1) (0, 0) Q 0 [.ref r0, .int x1] [] μ := by
  refine run_ok (pc' := 1) [(.aload_n 0, 0, 0, 0)] _ _ _ _ (by decide +kernel) ?_
  show G Γ m_MO_digit (d + 1) (0, 0) Q 1 [.ref r0, .int x1] [.ref r0] μ
  refine g_invV (M' := m_MO_look) (b1 := 0) (b2 := 0) (As := []) (a := r0) (st := []) lk_11_151 (by decide +kernel) rfl (dk_MO_look d) (Nat.le_of_ble_eq_true rfl) (Or.inl ⟨11, o_r0_11, rfl⟩) h ?_
  rintro _ μ1 ⟨v1, rfl, h⟩ hn1
  show G Γ m_MO_digit (d + 1) (0, 0) Q 4 [.ref r0, .int x1] [.int v1] μ1
  refine run_ok (pc' := 6) [(.istore_n 2, 0, 0, 0), (.aload_n 0, 0, 0, 0)] _ _ _ _ (by decide +kernel) ?_
  show G Γ m_MO_digit (d + 1) (0, 0) Q 6 [.ref r0, .int x1, .int v1] [.ref r0] μ1
  refine g_invV (M' := m_MO_isDigit) (b1 := 0) (b2 := 0) (As := []) (a := r0) (st := []) lk_11_181 (by decide +kernel) rfl (dk_MO_isDigit d) (Nat.le_of_ble_eq_true rfl) (Or.inl ⟨11, ((o_r0_11).mono hn1), rfl⟩) h ?_
  rintro _ μ2 ⟨v2, rfl, h⟩ hn2
  show G Γ m_MO_digit (d + 1) (0, 0) Q 9 [.ref r0, .int x1, .int v1] [.int v2] μ2
  refine g_ifz_eq (pc' := 20) (off := 11) (by decide) (by decide +kernel) (fun hc => ?_) (fun hc => ?_)
  · replace h := h.1 hc
    show G Γ m_MO_digit (d + 1) (0, 0) Q 20 [.ref r0, .int x1, .int v1] [] μ2
    refine run_ok (pc' := 21) [(.aload_n 0, 0, 0, 0)] _ _ _ _ (by decide +kernel) ?_
    show G Γ m_MO_digit (d + 1) (0, 0) Q 21 [.ref r0, .int x1, .int v1] [.ref r0] μ2
    refine g_invV (M' := m_MO_fails) (b1 := 0) (b2 := 0) (As := []) (a := r0) (st := []) lk_11_147 (by decide +kernel) rfl (dk_MO_fails d) (Nat.le_of_ble_eq_true rfl) (Or.inl ⟨11, (((o_r0_11).mono hn1).mono hn2), rfl⟩) h ?_
    rintro _ μ3 ⟨v3, rfl, h⟩ hn3
    show G Γ m_MO_digit (d + 1) (0, 0) Q 24 [.ref r0, .int x1, .int v1] [.int v3] μ3
    refine run_ok (pc' := 26) [(.pop, 0, 0, 0), (.iconst 0, 0, 0, 0)] _ _ _ _ (by decide +kernel) ?_
    show G Γ m_MO_digit (d + 1) (0, 0) Q 26 [.ref r0, .int x1, .int v1] [.int (w 0)] μ3
    exact g_reti (by decide +kernel) rfl h
  · replace h := h.2 hc
    show G Γ m_MO_digit (d + 1) (0, 0) Q 12 [.ref r0, .int x1, .int v1] [] μ2
    refine run_ok (pc' := 17) [(.iload_n 2, 0, 0, 0), (.bipush 48, 0, 0, 0), (.isub, 0, 0, 0), (.iload_n 1, 0, 0, 0)] _ _ _ _ (by decide +kernel) ?_
    show G Γ m_MO_digit (d + 1) (0, 0) Q 17 [.ref r0, .int x1, .int v1] [.int x1, .int (v1 - (w 48))] μ2
    refine g_icmp_le (pc' := 27) (off := 10) (by decide) (by decide +kernel) (fun hc => ?_) (fun hc => ?_)
    · replace h := h.2 hc
      show G Γ m_MO_digit (d + 1) (0, 0) Q 27 [.ref r0, .int x1, .int v1] [] μ2
      refine run_ok (pc' := 37) [(.aload_n 0, 0, 0, 0), (.dup, 0, 0, 0), (.getfield 132, 11, 10, 0), (.iconst 1, 0, 0, 0), (.iadd, 0, 0, 0), (.putfield 132, 11, 10, 0)] _ _ _ _ (by decide +kernel) ?_
      show _ ∧ (_ ∧ (_))
      refine ⟨(((o_r0_11).mono hn1).mono hn2), (((o_r0_11).mono hn1).mono hn2), ?_⟩
      show G Γ m_MO_digit (d + 1) (0, 0) Q 37 [.ref r0, .int x1, .int v1] [] (sI μ2 r0 10 ((xI μ2 r0 10) + (w 1)))
      obtain ⟨μ4, em4⟩ : ∃ m : XM, m = sI μ2 r0 10 ((xI μ2 r0 10) + (w 1)) := ⟨_, rfl⟩
      replace h := h μ4 em4
      have hm4 : xN μ2 ≤ xN μ4 := by rw [em4]; exact Nat.le_refl _
      rw [← em4]
      refine run_ok (pc' := 41) [(.iload_n 2, 0, 0, 0), (.bipush 48, 0, 0, 0), (.isub, 0, 0, 0)] _ _ _ _ (by decide +kernel) ?_
      show G Γ m_MO_digit (d + 1) (0, 0) Q 41 [.ref r0, .int x1, .int v1] [.int (v1 - (w 48))] μ4
      exact g_reti (by decide +kernel) rfl h
    · replace h := h.1 hc
      show G Γ m_MO_digit (d + 1) (0, 0) Q 20 [.ref r0, .int x1, .int v1] [] μ2
      refine run_ok (pc' := 21) [(.aload_n 0, 0, 0, 0)] _ _ _ _ (by decide +kernel) ?_
      show G Γ m_MO_digit (d + 1) (0, 0) Q 21 [.ref r0, .int x1, .int v1] [.ref r0] μ2
      refine g_invV (M' := m_MO_fails) (b1 := 0) (b2 := 0) (As := []) (a := r0) (st := []) lk_11_147 (by decide +kernel) rfl (dk_MO_fails d) (Nat.le_of_ble_eq_true rfl) (Or.inl ⟨11, (((o_r0_11).mono hn1).mono hn2), rfl⟩) h ?_
      rintro _ μ5 ⟨v5, rfl, h⟩ hn5
      show G Γ m_MO_digit (d + 1) (0, 0) Q 24 [.ref r0, .int x1, .int v1] [.int v5] μ5
      refine run_ok (pc' := 26) [(.pop, 0, 0, 0), (.iconst 0, 0, 0, 0)] _ _ _ _ (by decide +kernel) ?_
      show G Γ m_MO_digit (d + 1) (0, 0) Q 26 [.ref r0, .int x1, .int v1] [.int (w 0)] μ5
      exact g_reti (by decide +kernel) rfl h
/-! FrostBoxModel readStep(I)V -/
set_option maxRecDepth 100000 in
theorem lk_11_282 : LkV 11 282 m_MO_digit 1 := ⟨lc_MO_digit, lwG_in (List.mem_of_getElem? (i := 1576) rfl) rfl, lwG_in (List.mem_of_getElem? (i := 1578) rfl) rfl, lwG_in (List.mem_of_getElem? (i := 74) rfl) rfl⟩
set_option maxRecDepth 100000 in
theorem B_MO_readStep_0 {Γ : XG} {d : Nat} {Q : Option Value → XM → Prop} {r0 : Nat} {x1 : Int32} {μ : XM} (o_r0_11 : ob μ r0 11) (h : Call Γ m_MO_look d [.ref r0] μ (KI (fun v1 μ1 => Call Γ m_MO_spotOf d [.ref 19, .int v1] μ1 (KI (fun v2 μ2 => ((v2 = w (-1) → Call Γ m_MO_fails d [.ref r0] μ2 (KI (fun v34 μ34 => Q none μ34))) ∧ (¬ v2 = w (-1) → ∀ μ3, μ3 = sI μ2 r0 10 ((xI μ2 r0 10) + (w 1)) → ∃ a4, xR μ3 r0 23 = some a4 ∧ inS μ3 0 a4 x1 ∧ ∀ μ6, μ6 = sI μ3 a4 x1.toNatClampNeg v2 → Call Γ m_MO_digit d [.ref r0, .int (w 9)] μ6 (KI (fun v7 μ7 => inS μ7 0 a4 (x1 + (w 1)) ∧ ∀ μ9, μ9 = sI μ7 a4 (x1 + (w 1)).toNatClampNeg v7 → xR μ9 r0 23 = some a4 ∧ inS μ9 0 a4 (x1 + (w 2)) ∧ ∀ μ12, μ12 = sI μ9 a4 (x1 + (w 2)).toNatClampNeg (w (-1)) → inS μ12 0 a4 (x1 + (w 3)) ∧ ∀ μ14, μ14 = sI μ12 a4 (x1 + (w 3)).toNatClampNeg (w (-1)) → ((xI μ14 r0 11 = w (-1) → ((v2 = w 4 → inb μ14 0 a4 (x1 + (w 1)) ∧ Call Γ m_MO_digit d [.ref r0, .int (w 9)] μ14 (KI (fun v23 μ23 => inS μ23 0 a4 (x1 + (w 1)) ∧ ∀ μ25, μ25 = sI μ23 a4 (x1 + (w 1)).toNatClampNeg (((w 10) * (xI μ14 a4 (x1 + (w 1)).toNatClampNeg)) + v23) → ((v2 = w 0 → xR μ25 r0 23 = some a4 ∧ Call Γ m_MO_digit d [.ref r0, .int (w 9)] μ25 (KI (fun v27 μ27 => inS μ27 0 a4 (x1 + (w 2)) ∧ ∀ μ29, μ29 = sI μ27 a4 (x1 + (w 2)).toNatClampNeg v27 → ((xI μ29 r0 11 = w (-1) → xR μ29 r0 23 = some a4 ∧ Call Γ m_MO_digit d [.ref r0, .int (w 1)] μ29 (KI (fun v31 μ31 => inS μ31 0 a4 (x1 + (w 3)) ∧ ∀ μ33, μ33 = sI μ31 a4 (x1 + (w 3)).toNatClampNeg v31 → Q none μ33))) ∧ (¬ xI μ29 r0 11 = w (-1) → Q none μ29))))) ∧ (¬ v2 = w 0 → Q none μ25))))) ∧ (¬ v2 = w 4 → ((v2 = w 0 → Call Γ m_MO_digit d [.ref r0, .int (w 9)] μ14 (KI (fun v15 μ15 => inS μ15 0 a4 (x1 + (w 2)) ∧ ∀ μ17, μ17 = sI μ15 a4 (x1 + (w 2)).toNatClampNeg v15 → ((xI μ17 r0 11 = w (-1) → xR μ17 r0 23 = some a4 ∧ Call Γ m_MO_digit d [.ref r0, .int (w 1)] μ17 (KI (fun v19 μ19 => inS μ19 0 a4 (x1 + (w 3)) ∧ ∀ μ21, μ21 = sI μ19 a4 (x1 + (w 3)).toNatClampNeg v19 → Q none μ21))) ∧ (¬ xI μ17 r0 11 = w (-1) → Q none μ17))))) ∧ (¬ v2 = w 0 → Q none μ14))))) ∧ (¬ xI μ14 r0 11 = w (-1) → Q none μ14))))))))))) : G Γ m_MO_readStep (d + 1) (0, 0) Q 0 [.ref r0, .int x1] [] μ := by
  refine run_ok (pc' := 4) [(.ldc_w 280, 1, 5, 0), (.aload_n 0, 0, 0, 0)] _ _ _ _ (by decide +kernel) ?_
  show G Γ m_MO_readStep (d + 1) (0, 0) Q 4 [.ref r0, .int x1] [.ref r0, .ref 19] μ
  refine g_invV (M' := m_MO_look) (b1 := 0) (b2 := 0) (As := []) (a := r0) (st := [.ref 19]) lk_11_151 (by decide +kernel) rfl (dk_MO_look d) (Nat.le_of_ble_eq_true rfl) (Or.inl ⟨11, o_r0_11, rfl⟩) h ?_
  rintro _ μ1 ⟨v1, rfl, h⟩ hn1
  show G Γ m_MO_readStep (d + 1) (0, 0) Q 7 [.ref r0, .int x1] [.int v1, .ref 19] μ1
  refine g_invS (M' := m_MO_spotOf) (b1 := 0) (b2 := 0) (As := [.ref 19, .int v1]) (st := []) lk_11_238 (by decide +kernel) rfl (dk_MO_spotOf d) (Nat.le_of_ble_eq_true rfl) h ?_
  rintro _ μ2 ⟨v2, rfl, h⟩ hn2
  show G Γ m_MO_readStep (d + 1) (0, 0) Q 10 [.ref r0, .int x1] [.int v2] μ2
  refine run_ok (pc' := 13) [(.istore_n 2, 0, 0, 0), (.iload_n 2, 0, 0, 0), (.iconst (-1), 0, 0, 0)] _ _ _ _ (by decide +kernel) ?_
  show G Γ m_MO_readStep (d + 1) (0, 0) Q 13 [.ref r0, .int x1, .int v2] [.int (w (-1)), .int v2] μ2
  refine g_icmp_ne (pc' := 22) (off := 9) (by decide) (by decide +kernel) (fun hc => ?_) (fun hc => ?_)
  · replace h := h.2 hc
    show G Γ m_MO_readStep (d + 1) (0, 0) Q 22 [.ref r0, .int x1, .int v2] [] μ2
    refine run_ok (pc' := 32) [(.aload_n 0, 0, 0, 0), (.dup, 0, 0, 0), (.getfield 132, 11, 10, 0), (.iconst 1, 0, 0, 0), (.iadd, 0, 0, 0), (.putfield 132, 11, 10, 0)] _ _ _ _ (by decide +kernel) ?_
    show _ ∧ (_ ∧ (_))
    refine ⟨(((o_r0_11).mono hn1).mono hn2), (((o_r0_11).mono hn1).mono hn2), ?_⟩
    show G Γ m_MO_readStep (d + 1) (0, 0) Q 32 [.ref r0, .int x1, .int v2] [] (sI μ2 r0 10 ((xI μ2 r0 10) + (w 1)))
    obtain ⟨μ3, em3⟩ : ∃ m : XM, m = sI μ2 r0 10 ((xI μ2 r0 10) + (w 1)) := ⟨_, rfl⟩
    replace h := h μ3 em3
    have hm3 : xN μ2 ≤ xN μ3 := by rw [em3]; exact Nat.le_refl _
    rw [← em3]
    obtain ⟨a4, ea4, h⟩ := h
    obtain ⟨is5, h⟩ := h
    refine run_ok (pc' := 39) [(.aload_n 0, 0, 0, 0), (.getfield 52, 11, 23, 2), (.iload_n 1, 0, 0, 0), (.iload_n 2, 0, 0, 0), (.iastore, 0, 0, 0)] _ _ _ _ (by decide +kernel) ?_
    show _ ∧ (∃ _, _ ∧ (_ ∧ (_)))
    refine ⟨((((o_r0_11).mono hn1).mono hn2).mono hm3), a4, ea4, is5, ?_⟩
    show G Γ m_MO_readStep (d + 1) (0, 0) Q 39 [.ref r0, .int x1, .int v2] [] (sI μ3 a4 x1.toNatClampNeg v2)
    obtain ⟨μ6, em6⟩ : ∃ m : XM, m = sI μ3 a4 x1.toNatClampNeg v2 := ⟨_, rfl⟩
    replace h := h μ6 em6
    have hm6 : xN μ3 ≤ xN μ6 := by rw [em6]; exact Nat.le_refl _
    rw [← em6]
    refine run_ok (pc' := 49) [(.aload_n 0, 0, 0, 0), (.getfield 52, 11, 23, 2), (.iload_n 1, 0, 0, 0), (.iconst 1, 0, 0, 0), (.iadd, 0, 0, 0), (.aload_n 0, 0, 0, 0), (.bipush 9, 0, 0, 0)] _ _ _ _ (by decide +kernel) ?_
    show _ ∧ (∃ _, _ ∧ (_))
    refine ⟨(((((o_r0_11).mono hn1).mono hn2).mono hm3).mono hm6), a4, (by rw [em6]; exact ea4), ?_⟩
    show G Γ m_MO_readStep (d + 1) (0, 0) Q 49 [.ref r0, .int x1, .int v2] [.int (w 9), .ref r0, .int (x1 + (w 1)), .ref a4] μ6
    refine g_invV (M' := m_MO_digit) (b1 := 0) (b2 := 0) (As := [.int (w 9)]) (a := r0) (st := [.int (x1 + (w 1)), .ref a4]) lk_11_282 (by decide +kernel) rfl (dk_MO_digit d) (Nat.le_of_ble_eq_true rfl) (Or.inl ⟨11, (((((o_r0_11).mono hn1).mono hn2).mono hm3).mono hm6), rfl⟩) h ?_
    rintro _ μ7 ⟨v7, rfl, h⟩ hn7
    show G Γ m_MO_readStep (d + 1) (0, 0) Q 52 [.ref r0, .int x1, .int v2] [.int v7, .int (x1 + (w 1)), .ref a4] μ7
    obtain ⟨is8, h⟩ := h
    refine run_ok (pc' := 53) [(.iastore, 0, 0, 0)] _ _ _ _ (by decide +kernel) ?_
    show _ ∧ (_)
    refine ⟨is8, ?_⟩
    show G Γ m_MO_readStep (d + 1) (0, 0) Q 53 [.ref r0, .int x1, .int v2] [] (sI μ7 a4 (x1 + (w 1)).toNatClampNeg v7)
    obtain ⟨μ9, em9⟩ : ∃ m : XM, m = sI μ7 a4 (x1 + (w 1)).toNatClampNeg v7 := ⟨_, rfl⟩
    replace h := h μ9 em9
    have hm9 : xN μ7 ≤ xN μ9 := by rw [em9]; exact Nat.le_refl _
    rw [← em9]
    obtain ⟨ea10, h⟩ := h
    obtain ⟨is11, h⟩ := h
    refine run_ok (pc' := 62) [(.aload_n 0, 0, 0, 0), (.getfield 52, 11, 23, 2), (.iload_n 1, 0, 0, 0), (.iconst 2, 0, 0, 0), (.iadd, 0, 0, 0), (.iconst (-1), 0, 0, 0), (.iastore, 0, 0, 0)] _ _ _ _ (by decide +kernel) ?_
    show _ ∧ (∃ _, _ ∧ (_ ∧ (_)))
    refine ⟨(((((((o_r0_11).mono hn1).mono hn2).mono hm3).mono hm6).mono hn7).mono hm9), a4, ea10, is11, ?_⟩
    show G Γ m_MO_readStep (d + 1) (0, 0) Q 62 [.ref r0, .int x1, .int v2] [] (sI μ9 a4 (x1 + (w 2)).toNatClampNeg (w (-1)))
    obtain ⟨μ12, em12⟩ : ∃ m : XM, m = sI μ9 a4 (x1 + (w 2)).toNatClampNeg (w (-1)) := ⟨_, rfl⟩
    replace h := h μ12 em12
    have hm12 : xN μ9 ≤ xN μ12 := by rw [em12]; exact Nat.le_refl _
    rw [← em12]
    obtain ⟨is13, h⟩ := h
    refine run_ok (pc' := 71) [(.aload_n 0, 0, 0, 0), (.getfield 52, 11, 23, 2), (.iload_n 1, 0, 0, 0), (.iconst 3, 0, 0, 0), (.iadd, 0, 0, 0), (.iconst (-1), 0, 0, 0), (.iastore, 0, 0, 0)] _ _ _ _ (by decide +kernel) ?_
    show _ ∧ (∃ _, _ ∧ (_ ∧ (_)))
    refine ⟨((((((((o_r0_11).mono hn1).mono hn2).mono hm3).mono hm6).mono hn7).mono hm9).mono hm12), a4, (by rw [em12]; exact ea10), is13, ?_⟩
    show G Γ m_MO_readStep (d + 1) (0, 0) Q 71 [.ref r0, .int x1, .int v2] [] (sI μ12 a4 (x1 + (w 3)).toNatClampNeg (w (-1)))
    obtain ⟨μ14, em14⟩ : ∃ m : XM, m = sI μ12 a4 (x1 + (w 3)).toNatClampNeg (w (-1)) := ⟨_, rfl⟩
    replace h := h μ14 em14
    have hm14 : xN μ12 ≤ xN μ14 := by rw [em14]; exact Nat.le_refl _
    rw [← em14]
    refine run_ok (pc' := 76) [(.aload_n 0, 0, 0, 0), (.getfield 141, 11, 11, 0), (.iconst (-1), 0, 0, 0)] _ _ _ _ (by decide +kernel) ?_
    show _ ∧ (_)
    refine ⟨(((((((((o_r0_11).mono hn1).mono hn2).mono hm3).mono hm6).mono hn7).mono hm9).mono hm12).mono hm14), ?_⟩
    show G Γ m_MO_readStep (d + 1) (0, 0) Q 76 [.ref r0, .int x1, .int v2] [.int (w (-1)), .int (xI μ14 r0 11)] μ14
    refine g_icmp_eq (pc' := 80) (off := 4) (by decide) (by decide +kernel) (fun hc => ?_) (fun hc => ?_)
    · replace h := h.1 hc
      show G Γ m_MO_readStep (d + 1) (0, 0) Q 80 [.ref r0, .int x1, .int v2] [] μ14
      refine run_ok (pc' := 82) [(.iload_n 2, 0, 0, 0), (.iconst 4, 0, 0, 0)] _ _ _ _ (by decide +kernel) ?_
      show G Γ m_MO_readStep (d + 1) (0, 0) Q 82 [.ref r0, .int x1, .int v2] [.int (w 4), .int v2] μ14
      refine g_icmp_ne (pc' := 111) (off := 29) (by decide) (by decide +kernel) (fun hc => ?_) (fun hc => ?_)
      · replace h := h.2 hc
        show G Γ m_MO_readStep (d + 1) (0, 0) Q 111 [.ref r0, .int x1, .int v2] [] μ14
        refine run_ok (pc' := 112) [(.iload_n 2, 0, 0, 0)] _ _ _ _ (by decide +kernel) ?_
        show G Γ m_MO_readStep (d + 1) (0, 0) Q 112 [.ref r0, .int x1, .int v2] [.int v2] μ14
        refine g_ifz_eq (pc' := 116) (off := 4) (by decide) (by decide +kernel) (fun hc => ?_) (fun hc => ?_)
        · replace h := h.1 hc
          show G Γ m_MO_readStep (d + 1) (0, 0) Q 116 [.ref r0, .int x1, .int v2] [] μ14
          refine run_ok (pc' := 126) [(.aload_n 0, 0, 0, 0), (.getfield 52, 11, 23, 2), (.iload_n 1, 0, 0, 0), (.iconst 2, 0, 0, 0), (.iadd, 0, 0, 0), (.aload_n 0, 0, 0, 0), (.bipush 9, 0, 0, 0)] _ _ _ _ (by decide +kernel) ?_
          show _ ∧ (∃ _, _ ∧ (_))
          refine ⟨(((((((((o_r0_11).mono hn1).mono hn2).mono hm3).mono hm6).mono hn7).mono hm9).mono hm12).mono hm14), a4, (by rw [em14]; exact (by rw [em12]; exact ea10)), ?_⟩
          show G Γ m_MO_readStep (d + 1) (0, 0) Q 126 [.ref r0, .int x1, .int v2] [.int (w 9), .ref r0, .int (x1 + (w 2)), .ref a4] μ14
          refine g_invV (M' := m_MO_digit) (b1 := 0) (b2 := 0) (As := [.int (w 9)]) (a := r0) (st := [.int (x1 + (w 2)), .ref a4]) lk_11_282 (by decide +kernel) rfl (dk_MO_digit d) (Nat.le_of_ble_eq_true rfl) (Or.inl ⟨11, (((((((((o_r0_11).mono hn1).mono hn2).mono hm3).mono hm6).mono hn7).mono hm9).mono hm12).mono hm14), rfl⟩) h ?_
          rintro _ μ15 ⟨v15, rfl, h⟩ hn15
          show G Γ m_MO_readStep (d + 1) (0, 0) Q 129 [.ref r0, .int x1, .int v2] [.int v15, .int (x1 + (w 2)), .ref a4] μ15
          obtain ⟨is16, h⟩ := h
          refine run_ok (pc' := 130) [(.iastore, 0, 0, 0)] _ _ _ _ (by decide +kernel) ?_
          show _ ∧ (_)
          refine ⟨is16, ?_⟩
          show G Γ m_MO_readStep (d + 1) (0, 0) Q 130 [.ref r0, .int x1, .int v2] [] (sI μ15 a4 (x1 + (w 2)).toNatClampNeg v15)
          obtain ⟨μ17, em17⟩ : ∃ m : XM, m = sI μ15 a4 (x1 + (w 2)).toNatClampNeg v15 := ⟨_, rfl⟩
          replace h := h μ17 em17
          have hm17 : xN μ15 ≤ xN μ17 := by rw [em17]; exact Nat.le_refl _
          rw [← em17]
          refine run_ok (pc' := 135) [(.aload_n 0, 0, 0, 0), (.getfield 141, 11, 11, 0), (.iconst (-1), 0, 0, 0)] _ _ _ _ (by decide +kernel) ?_
          show _ ∧ (_)
          refine ⟨(((((((((((o_r0_11).mono hn1).mono hn2).mono hm3).mono hm6).mono hn7).mono hm9).mono hm12).mono hm14).mono hn15).mono hm17), ?_⟩
          show G Γ m_MO_readStep (d + 1) (0, 0) Q 135 [.ref r0, .int x1, .int v2] [.int (w (-1)), .int (xI μ17 r0 11)] μ17
          refine g_icmp_ne (pc' := 151) (off := 16) (by decide) (by decide +kernel) (fun hc => ?_) (fun hc => ?_)
          · replace h := h.2 hc
            show G Γ m_MO_readStep (d + 1) (0, 0) Q 151 [.ref r0, .int x1, .int v2] [] μ17
            exact g_retv (by decide +kernel) rfl h
          · replace h := h.1 hc
            show G Γ m_MO_readStep (d + 1) (0, 0) Q 138 [.ref r0, .int x1, .int v2] [] μ17
            obtain ⟨ea18, h⟩ := h
            refine run_ok (pc' := 147) [(.aload_n 0, 0, 0, 0), (.getfield 52, 11, 23, 2), (.iload_n 1, 0, 0, 0), (.iconst 3, 0, 0, 0), (.iadd, 0, 0, 0), (.aload_n 0, 0, 0, 0), (.iconst 1, 0, 0, 0)] _ _ _ _ (by decide +kernel) ?_
            show _ ∧ (∃ _, _ ∧ (_))
            refine ⟨(((((((((((o_r0_11).mono hn1).mono hn2).mono hm3).mono hm6).mono hn7).mono hm9).mono hm12).mono hm14).mono hn15).mono hm17), a4, ea18, ?_⟩
            show G Γ m_MO_readStep (d + 1) (0, 0) Q 147 [.ref r0, .int x1, .int v2] [.int (w 1), .ref r0, .int (x1 + (w 3)), .ref a4] μ17
            refine g_invV (M' := m_MO_digit) (b1 := 0) (b2 := 0) (As := [.int (w 1)]) (a := r0) (st := [.int (x1 + (w 3)), .ref a4]) lk_11_282 (by decide +kernel) rfl (dk_MO_digit d) (Nat.le_of_ble_eq_true rfl) (Or.inl ⟨11, (((((((((((o_r0_11).mono hn1).mono hn2).mono hm3).mono hm6).mono hn7).mono hm9).mono hm12).mono hm14).mono hn15).mono hm17), rfl⟩) h ?_
            rintro _ μ19 ⟨v19, rfl, h⟩ hn19
            show G Γ m_MO_readStep (d + 1) (0, 0) Q 150 [.ref r0, .int x1, .int v2] [.int v19, .int (x1 + (w 3)), .ref a4] μ19
            obtain ⟨is20, h⟩ := h
            refine run_ok (pc' := 151) [(.iastore, 0, 0, 0)] _ _ _ _ (by decide +kernel) ?_
            show _ ∧ (_)
            refine ⟨is20, ?_⟩
            show G Γ m_MO_readStep (d + 1) (0, 0) Q 151 [.ref r0, .int x1, .int v2] [] (sI μ19 a4 (x1 + (w 3)).toNatClampNeg v19)
            obtain ⟨μ21, em21⟩ : ∃ m : XM, m = sI μ19 a4 (x1 + (w 3)).toNatClampNeg v19 := ⟨_, rfl⟩
            replace h := h μ21 em21
            have hm21 : xN μ19 ≤ xN μ21 := by rw [em21]; exact Nat.le_refl _
            rw [← em21]
            exact g_retv (by decide +kernel) rfl h
        · replace h := h.2 hc
          show G Γ m_MO_readStep (d + 1) (0, 0) Q 115 [.ref r0, .int x1, .int v2] [] μ14
          exact g_retv (by decide +kernel) rfl h
      · replace h := h.1 hc
        show G Γ m_MO_readStep (d + 1) (0, 0) Q 85 [.ref r0, .int x1, .int v2] [] μ14
        obtain ⟨ib22, h⟩ := h
        refine run_ok (pc' := 106) [(.aload_n 0, 0, 0, 0), (.getfield 52, 11, 23, 2), (.iload_n 1, 0, 0, 0), (.iconst 1, 0, 0, 0), (.iadd, 0, 0, 0), (.bipush 10, 0, 0, 0), (.aload_n 0, 0, 0, 0), (.getfield 52, 11, 23, 2), (.iload_n 1, 0, 0, 0), (.iconst 1, 0, 0, 0), (.iadd, 0, 0, 0), (.iaload, 0, 0, 0), (.imul, 0, 0, 0), (.aload_n 0, 0, 0, 0), (.bipush 9, 0, 0, 0)] _ _ _ _ (by decide +kernel) ?_
        show _ ∧ (∃ _, _ ∧ (_ ∧ (∃ _, _ ∧ (_ ∧ (_)))))
        refine ⟨(((((((((o_r0_11).mono hn1).mono hn2).mono hm3).mono hm6).mono hn7).mono hm9).mono hm12).mono hm14), a4, (by rw [em14]; exact (by rw [em12]; exact ea10)), (((((((((o_r0_11).mono hn1).mono hn2).mono hm3).mono hm6).mono hn7).mono hm9).mono hm12).mono hm14), a4, (by rw [em14]; exact (by rw [em12]; exact ea10)), ib22, ?_⟩
        show G Γ m_MO_readStep (d + 1) (0, 0) Q 106 [.ref r0, .int x1, .int v2] [.int (w 9), .ref r0, .int ((w 10) * (xI μ14 a4 (x1 + (w 1)).toNatClampNeg)), .int (x1 + (w 1)), .ref a4] μ14
        refine g_invV (M' := m_MO_digit) (b1 := 0) (b2 := 0) (As := [.int (w 9)]) (a := r0) (st := [.int ((w 10) * (xI μ14 a4 (x1 + (w 1)).toNatClampNeg)), .int (x1 + (w 1)), .ref a4]) lk_11_282 (by decide +kernel) rfl (dk_MO_digit d) (Nat.le_of_ble_eq_true rfl) (Or.inl ⟨11, (((((((((o_r0_11).mono hn1).mono hn2).mono hm3).mono hm6).mono hn7).mono hm9).mono hm12).mono hm14), rfl⟩) h ?_
        rintro _ μ23 ⟨v23, rfl, h⟩ hn23
        show G Γ m_MO_readStep (d + 1) (0, 0) Q 109 [.ref r0, .int x1, .int v2] [.int v23, .int ((w 10) * (xI μ14 a4 (x1 + (w 1)).toNatClampNeg)), .int (x1 + (w 1)), .ref a4] μ23
        obtain ⟨is24, h⟩ := h
        refine run_ok (pc' := 111) [(.iadd, 0, 0, 0), (.iastore, 0, 0, 0)] _ _ _ _ (by decide +kernel) ?_
        show _ ∧ (_)
        refine ⟨is24, ?_⟩
        show G Γ m_MO_readStep (d + 1) (0, 0) Q 111 [.ref r0, .int x1, .int v2] [] (sI μ23 a4 (x1 + (w 1)).toNatClampNeg (((w 10) * (xI μ14 a4 (x1 + (w 1)).toNatClampNeg)) + v23))
        obtain ⟨μ25, em25⟩ : ∃ m : XM, m = sI μ23 a4 (x1 + (w 1)).toNatClampNeg (((w 10) * (xI μ14 a4 (x1 + (w 1)).toNatClampNeg)) + v23) := ⟨_, rfl⟩
        replace h := h μ25 em25
        have hm25 : xN μ23 ≤ xN μ25 := by rw [em25]; exact Nat.le_refl _
        rw [← em25]
        refine run_ok (pc' := 112) [(.iload_n 2, 0, 0, 0)] _ _ _ _ (by decide +kernel) ?_
        show G Γ m_MO_readStep (d + 1) (0, 0) Q 112 [.ref r0, .int x1, .int v2] [.int v2] μ25
        refine g_ifz_eq (pc' := 116) (off := 4) (by decide) (by decide +kernel) (fun hc => ?_) (fun hc => ?_)
        · replace h := h.1 hc
          show G Γ m_MO_readStep (d + 1) (0, 0) Q 116 [.ref r0, .int x1, .int v2] [] μ25
          obtain ⟨ea26, h⟩ := h
          refine run_ok (pc' := 126) [(.aload_n 0, 0, 0, 0), (.getfield 52, 11, 23, 2), (.iload_n 1, 0, 0, 0), (.iconst 2, 0, 0, 0), (.iadd, 0, 0, 0), (.aload_n 0, 0, 0, 0), (.bipush 9, 0, 0, 0)] _ _ _ _ (by decide +kernel) ?_
          show _ ∧ (∃ _, _ ∧ (_))
          refine ⟨(((((((((((o_r0_11).mono hn1).mono hn2).mono hm3).mono hm6).mono hn7).mono hm9).mono hm12).mono hm14).mono hn23).mono hm25), a4, ea26, ?_⟩
          show G Γ m_MO_readStep (d + 1) (0, 0) Q 126 [.ref r0, .int x1, .int v2] [.int (w 9), .ref r0, .int (x1 + (w 2)), .ref a4] μ25
          refine g_invV (M' := m_MO_digit) (b1 := 0) (b2 := 0) (As := [.int (w 9)]) (a := r0) (st := [.int (x1 + (w 2)), .ref a4]) lk_11_282 (by decide +kernel) rfl (dk_MO_digit d) (Nat.le_of_ble_eq_true rfl) (Or.inl ⟨11, (((((((((((o_r0_11).mono hn1).mono hn2).mono hm3).mono hm6).mono hn7).mono hm9).mono hm12).mono hm14).mono hn23).mono hm25), rfl⟩) h ?_
          rintro _ μ27 ⟨v27, rfl, h⟩ hn27
          show G Γ m_MO_readStep (d + 1) (0, 0) Q 129 [.ref r0, .int x1, .int v2] [.int v27, .int (x1 + (w 2)), .ref a4] μ27
          obtain ⟨is28, h⟩ := h
          refine run_ok (pc' := 130) [(.iastore, 0, 0, 0)] _ _ _ _ (by decide +kernel) ?_
          show _ ∧ (_)
          refine ⟨is28, ?_⟩
          show G Γ m_MO_readStep (d + 1) (0, 0) Q 130 [.ref r0, .int x1, .int v2] [] (sI μ27 a4 (x1 + (w 2)).toNatClampNeg v27)
          obtain ⟨μ29, em29⟩ : ∃ m : XM, m = sI μ27 a4 (x1 + (w 2)).toNatClampNeg v27 := ⟨_, rfl⟩
          replace h := h μ29 em29
          have hm29 : xN μ27 ≤ xN μ29 := by rw [em29]; exact Nat.le_refl _
          rw [← em29]
          refine run_ok (pc' := 135) [(.aload_n 0, 0, 0, 0), (.getfield 141, 11, 11, 0), (.iconst (-1), 0, 0, 0)] _ _ _ _ (by decide +kernel) ?_
          show _ ∧ (_)
          refine ⟨(((((((((((((o_r0_11).mono hn1).mono hn2).mono hm3).mono hm6).mono hn7).mono hm9).mono hm12).mono hm14).mono hn23).mono hm25).mono hn27).mono hm29), ?_⟩
          show G Γ m_MO_readStep (d + 1) (0, 0) Q 135 [.ref r0, .int x1, .int v2] [.int (w (-1)), .int (xI μ29 r0 11)] μ29
          refine g_icmp_ne (pc' := 151) (off := 16) (by decide) (by decide +kernel) (fun hc => ?_) (fun hc => ?_)
          · replace h := h.2 hc
            show G Γ m_MO_readStep (d + 1) (0, 0) Q 151 [.ref r0, .int x1, .int v2] [] μ29
            exact g_retv (by decide +kernel) rfl h
          · replace h := h.1 hc
            show G Γ m_MO_readStep (d + 1) (0, 0) Q 138 [.ref r0, .int x1, .int v2] [] μ29
            obtain ⟨ea30, h⟩ := h
            refine run_ok (pc' := 147) [(.aload_n 0, 0, 0, 0), (.getfield 52, 11, 23, 2), (.iload_n 1, 0, 0, 0), (.iconst 3, 0, 0, 0), (.iadd, 0, 0, 0), (.aload_n 0, 0, 0, 0), (.iconst 1, 0, 0, 0)] _ _ _ _ (by decide +kernel) ?_
            show _ ∧ (∃ _, _ ∧ (_))
            refine ⟨(((((((((((((o_r0_11).mono hn1).mono hn2).mono hm3).mono hm6).mono hn7).mono hm9).mono hm12).mono hm14).mono hn23).mono hm25).mono hn27).mono hm29), a4, ea30, ?_⟩
            show G Γ m_MO_readStep (d + 1) (0, 0) Q 147 [.ref r0, .int x1, .int v2] [.int (w 1), .ref r0, .int (x1 + (w 3)), .ref a4] μ29
            refine g_invV (M' := m_MO_digit) (b1 := 0) (b2 := 0) (As := [.int (w 1)]) (a := r0) (st := [.int (x1 + (w 3)), .ref a4]) lk_11_282 (by decide +kernel) rfl (dk_MO_digit d) (Nat.le_of_ble_eq_true rfl) (Or.inl ⟨11, (((((((((((((o_r0_11).mono hn1).mono hn2).mono hm3).mono hm6).mono hn7).mono hm9).mono hm12).mono hm14).mono hn23).mono hm25).mono hn27).mono hm29), rfl⟩) h ?_
            rintro _ μ31 ⟨v31, rfl, h⟩ hn31
            show G Γ m_MO_readStep (d + 1) (0, 0) Q 150 [.ref r0, .int x1, .int v2] [.int v31, .int (x1 + (w 3)), .ref a4] μ31
            obtain ⟨is32, h⟩ := h
            refine run_ok (pc' := 151) [(.iastore, 0, 0, 0)] _ _ _ _ (by decide +kernel) ?_
            show _ ∧ (_)
            refine ⟨is32, ?_⟩
            show G Γ m_MO_readStep (d + 1) (0, 0) Q 151 [.ref r0, .int x1, .int v2] [] (sI μ31 a4 (x1 + (w 3)).toNatClampNeg v31)
            obtain ⟨μ33, em33⟩ : ∃ m : XM, m = sI μ31 a4 (x1 + (w 3)).toNatClampNeg v31 := ⟨_, rfl⟩
            replace h := h μ33 em33
            have hm33 : xN μ31 ≤ xN μ33 := by rw [em33]; exact Nat.le_refl _
            rw [← em33]
            exact g_retv (by decide +kernel) rfl h
        · replace h := h.2 hc
          show G Γ m_MO_readStep (d + 1) (0, 0) Q 115 [.ref r0, .int x1, .int v2] [] μ25
          exact g_retv (by decide +kernel) rfl h
    · replace h := h.2 hc
      show G Γ m_MO_readStep (d + 1) (0, 0) Q 79 [.ref r0, .int x1, .int v2] [] μ14
      exact g_retv (by decide +kernel) rfl h
  · replace h := h.1 hc
    show G Γ m_MO_readStep (d + 1) (0, 0) Q 16 [.ref r0, .int x1, .int v2] [] μ2
    refine run_ok (pc' := 17) [(.aload_n 0, 0, 0, 0)] _ _ _ _ (by decide +kernel) ?_
    show G Γ m_MO_readStep (d + 1) (0, 0) Q 17 [.ref r0, .int x1, .int v2] [.ref r0] μ2
    refine g_invV (M' := m_MO_fails) (b1 := 0) (b2 := 0) (As := []) (a := r0) (st := []) lk_11_147 (by decide +kernel) rfl (dk_MO_fails d) (Nat.le_of_ble_eq_true rfl) (Or.inl ⟨11, (((o_r0_11).mono hn1).mono hn2), rfl⟩) h ?_
    rintro _ μ34 ⟨v34, rfl, h⟩ hn34
    show G Γ m_MO_readStep (d + 1) (0, 0) Q 20 [.ref r0, .int x1, .int v2] [.int v34] μ34
    refine run_ok (pc' := 21) [(.pop, 0, 0, 0)] _ _ _ _ (by decide +kernel) ?_
    show G Γ m_MO_readStep (d + 1) (0, 0) Q 21 [.ref r0, .int x1, .int v2] [] μ34
    exact g_retv (by decide +kernel) rfl h
/-! FrostBoxModel readPlan()V -/
set_option maxRecDepth 100000 in
theorem lk_11_285 : LkV 11 285 m_MO_readStep 1 := ⟨lc_MO_readStep, lwG_in (List.mem_of_getElem? (i := 1571) rfl) rfl, lwG_in (List.mem_of_getElem? (i := 1573) rfl) rfl, lwG_in (List.mem_of_getElem? (i := 73) rfl) rfl⟩
set_option maxRecDepth 100000 in
theorem B_MO_readPlan_0 {Γ : XG} {d : Nat} {Q : Option Value → XM → Prop} {r0 r0_1 : Nat} {μ : XM} (o_r0_11 : ob μ r0 11) (e_r0_1 : xR μ r0 1 = some r0_1) (h : Call Γ m_MO_starts d [.ref r0, .ref r0_1, .int (w 0), .int (xI μ r0 6)] μ (KV (fun μ1 => G Γ m_MO_readPlan (d + 1) (0, 0) Q 17 [.ref r0, .int (w 0), .int (w 1)] [] μ1))) : G Γ m_MO_readPlan (d + 1) (0, 0) Q 0 [.ref r0] [] μ := by
  refine run_ok (pc' := 10) [(.aload_n 0, 0, 0, 0), (.aload_n 0, 0, 0, 0), (.getfield 9, 11, 1, 2), (.iconst 0, 0, 0, 0), (.aload_n 0, 0, 0, 0), (.getfield 122, 11, 6, 0)] _ _ _ _ (by decide +kernel) ?_
  show _ ∧ (∃ _, _ ∧ (_ ∧ (_)))
  refine ⟨o_r0_11, r0_1, e_r0_1, o_r0_11, ?_⟩
  show G Γ m_MO_readPlan (d + 1) (0, 0) Q 10 [.ref r0] [.int (xI μ r0 6), .int (w 0), .ref r0_1, .ref r0] μ
  refine g_invV (M' := m_MO_starts) (b1 := 0) (b2 := 0) (As := [.ref r0_1, .int (w 0), .int (xI μ r0 6)]) (a := r0) (st := []) lk_11_220 (by decide +kernel) rfl (dk_MO_starts d) (Nat.le_of_ble_eq_true rfl) (Or.inl ⟨11, o_r0_11, rfl⟩) h ?_
  rintro _ μ1 ⟨rfl, h⟩ hn1
  show G Γ m_MO_readPlan (d + 1) (0, 0) Q 13 [.ref r0] [] μ1
  refine run_ok (pc' := 17) [(.iconst 0, 0, 0, 0), (.istore_n 1, 0, 0, 0), (.iconst 1, 0, 0, 0), (.istore_n 2, 0, 0, 0)] _ _ _ _ (by decide +kernel) ?_
  show G Γ m_MO_readPlan (d + 1) (0, 0) Q 17 [.ref r0, .int (w 0), .int (w 1)] [] μ1
  exact h
set_option maxRecDepth 100000 in
theorem B_MO_readPlan_17 {Γ : XG} {d : Nat} {Q : Option Value → XM → Prop} {r0 r0_24 : Nat} {x1 x2 : Int32} {μ : XM} (o_r0_11 : ob μ r0 11) (e_r0_24 : xR μ r0 24 = some r0_24) (h : ((x2 = w 0 → inS μ 0 r0_24 (w 4) ∧ ∀ μ2, μ2 = sI μ r0_24 (w 4).toNatClampNeg x1 → Call Γ m_MO_look d [.ref r0] μ2 (KI (fun v3 μ3 => ((v3 = w (-1) → Q none μ3) ∧ (¬ v3 = w (-1) → Call Γ m_MO_fails d [.ref r0] μ3 (KI (fun v4 μ4 => Q none μ4))))))) ∧ (¬ x2 = w 0 → Call Γ m_MO_readStep d [.ref r0, .int ((w 4) * ((w 64) + x1))] μ (KV (fun μ5 => ((xI μ5 r0 11 = w (-1) → Call Γ m_MO_look d [.ref r0] μ5 (KI (fun v6 μ6 => ((v6 = w 59 → ((w 1 = w 0 → ((w 1 = w 0 → G Γ m_MO_readPlan (d + 1) (0, 0) Q 17 [.ref r0, .int (x1 + w 1), .int (w 1)] [] μ6) ∧ (¬ w 1 = w 0 → ∀ μ10, μ10 = sI μ6 r0 10 ((xI μ6 r0 10) + (w 1)) → G Γ m_MO_readPlan (d + 1) (0, 0) Q 17 [.ref r0, .int (x1 + w 1), .int (w 1)] [] μ10))) ∧ (¬ w 1 = w 0 → ((x1 + w 1 = w 16 → Call Γ m_MO_fails d [.ref r0] μ6 (KI (fun v12 μ12 => Q none μ12))) ∧ (¬ x1 + w 1 = w 16 → ((w 1 = w 0 → G Γ m_MO_readPlan (d + 1) (0, 0) Q 17 [.ref r0, .int (x1 + w 1), .int (w 1)] [] μ6) ∧ (¬ w 1 = w 0 → ∀ μ11, μ11 = sI μ6 r0 10 ((xI μ6 r0 10) + (w 1)) → G Γ m_MO_readPlan (d + 1) (0, 0) Q 17 [.ref r0, .int (x1 + w 1), .int (w 1)] [] μ11))))))) ∧ (¬ v6 = w 59 → ((w 0 = w 0 → ((w 0 = w 0 → G Γ m_MO_readPlan (d + 1) (0, 0) Q 17 [.ref r0, .int (x1 + w 1), .int (w 0)] [] μ6) ∧ (¬ w 0 = w 0 → ∀ μ7, μ7 = sI μ6 r0 10 ((xI μ6 r0 10) + (w 1)) → G Γ m_MO_readPlan (d + 1) (0, 0) Q 17 [.ref r0, .int (x1 + w 1), .int (w 0)] [] μ7))) ∧ (¬ w 0 = w 0 → ((x1 + w 1 = w 16 → Call Γ m_MO_fails d [.ref r0] μ6 (KI (fun v9 μ9 => Q none μ9))) ∧ (¬ x1 + w 1 = w 16 → ((w 0 = w 0 → G Γ m_MO_readPlan (d + 1) (0, 0) Q 17 [.ref r0, .int (x1 + w 1), .int (w 0)] [] μ6) ∧ (¬ w 0 = w 0 → ∀ μ8, μ8 = sI μ6 r0 10 ((xI μ6 r0 10) + (w 1)) → G Γ m_MO_readPlan (d + 1) (0, 0) Q 17 [.ref r0, .int (x1 + w 1), .int (w 0)] [] μ8))))))))))) ∧ (¬ xI μ5 r0 11 = w (-1) → Q none μ5))))))) : G Γ m_MO_readPlan (d + 1) (0, 0) Q 17 [.ref r0, .int x1, .int x2] [] μ := by
  refine run_ok (pc' := 18) [(.iload_n 2, 0, 0, 0)] _ _ _ _ (by decide +kernel) ?_
  show G Γ m_MO_readPlan (d + 1) (0, 0) Q 18 [.ref r0, .int x1, .int x2] [.int x2] μ
  refine g_ifz_eq (pc' := 91) (off := 73) (by decide) (by decide +kernel) (fun hc => ?_) (fun hc => ?_)
  · replace h := h.1 hc
    show G Γ m_MO_readPlan (d + 1) (0, 0) Q 91 [.ref r0, .int x1, .int x2] [] μ
    obtain ⟨is1, h⟩ := h
    refine run_ok (pc' := 98) [(.aload_n 0, 0, 0, 0), (.getfield 55, 11, 24, 2), (.iconst 4, 0, 0, 0), (.iload_n 1, 0, 0, 0), (.iastore, 0, 0, 0)] _ _ _ _ (by decide +kernel) ?_
    show _ ∧ (∃ _, _ ∧ (_ ∧ (_)))
    refine ⟨o_r0_11, r0_24, e_r0_24, is1, ?_⟩
    show G Γ m_MO_readPlan (d + 1) (0, 0) Q 98 [.ref r0, .int x1, .int x2] [] (sI μ r0_24 (w 4).toNatClampNeg x1)
    obtain ⟨μ2, em2⟩ : ∃ m : XM, m = sI μ r0_24 (w 4).toNatClampNeg x1 := ⟨_, rfl⟩
    replace h := h μ2 em2
    have hm2 : xN μ ≤ xN μ2 := by rw [em2]; exact Nat.le_refl _
    rw [← em2]
    refine run_ok (pc' := 99) [(.aload_n 0, 0, 0, 0)] _ _ _ _ (by decide +kernel) ?_
    show G Γ m_MO_readPlan (d + 1) (0, 0) Q 99 [.ref r0, .int x1, .int x2] [.ref r0] μ2
    refine g_invV (M' := m_MO_look) (b1 := 0) (b2 := 0) (As := []) (a := r0) (st := []) lk_11_151 (by decide +kernel) rfl (dk_MO_look d) (Nat.le_of_ble_eq_true rfl) (Or.inl ⟨11, ((o_r0_11).mono hm2), rfl⟩) h ?_
    rintro _ μ3 ⟨v3, rfl, h⟩ hn3
    show G Γ m_MO_readPlan (d + 1) (0, 0) Q 102 [.ref r0, .int x1, .int x2] [.int v3] μ3
    refine run_ok (pc' := 103) [(.iconst (-1), 0, 0, 0)] _ _ _ _ (by decide +kernel) ?_
    show G Γ m_MO_readPlan (d + 1) (0, 0) Q 103 [.ref r0, .int x1, .int x2] [.int (w (-1)), .int v3] μ3
    refine g_icmp_eq (pc' := 111) (off := 8) (by decide) (by decide +kernel) (fun hc => ?_) (fun hc => ?_)
    · replace h := h.1 hc
      show G Γ m_MO_readPlan (d + 1) (0, 0) Q 111 [.ref r0, .int x1, .int x2] [] μ3
      exact g_retv (by decide +kernel) rfl h
    · replace h := h.2 hc
      show G Γ m_MO_readPlan (d + 1) (0, 0) Q 106 [.ref r0, .int x1, .int x2] [] μ3
      refine run_ok (pc' := 107) [(.aload_n 0, 0, 0, 0)] _ _ _ _ (by decide +kernel) ?_
      show G Γ m_MO_readPlan (d + 1) (0, 0) Q 107 [.ref r0, .int x1, .int x2] [.ref r0] μ3
      refine g_invV (M' := m_MO_fails) (b1 := 0) (b2 := 0) (As := []) (a := r0) (st := []) lk_11_147 (by decide +kernel) rfl (dk_MO_fails d) (Nat.le_of_ble_eq_true rfl) (Or.inl ⟨11, (((o_r0_11).mono hm2).mono hn3), rfl⟩) h ?_
      rintro _ μ4 ⟨v4, rfl, h⟩ hn4
      show G Γ m_MO_readPlan (d + 1) (0, 0) Q 110 [.ref r0, .int x1, .int x2] [.int v4] μ4
      refine run_ok (pc' := 111) [(.pop, 0, 0, 0)] _ _ _ _ (by decide +kernel) ?_
      show G Γ m_MO_readPlan (d + 1) (0, 0) Q 111 [.ref r0, .int x1, .int x2] [] μ4
      exact g_retv (by decide +kernel) rfl h
  · replace h := h.2 hc
    show G Γ m_MO_readPlan (d + 1) (0, 0) Q 21 [.ref r0, .int x1, .int x2] [] μ
    refine run_ok (pc' := 28) [(.aload_n 0, 0, 0, 0), (.iconst 4, 0, 0, 0), (.bipush 64, 0, 0, 0), (.iload_n 1, 0, 0, 0), (.iadd, 0, 0, 0), (.imul, 0, 0, 0)] _ _ _ _ (by decide +kernel) ?_
    show G Γ m_MO_readPlan (d + 1) (0, 0) Q 28 [.ref r0, .int x1, .int x2] [.int ((w 4) * ((w 64) + x1)), .ref r0] μ
    refine g_invV (M' := m_MO_readStep) (b1 := 0) (b2 := 0) (As := [.int ((w 4) * ((w 64) + x1))]) (a := r0) (st := []) lk_11_285 (by decide +kernel) rfl (dk_MO_readStep d) (Nat.le_of_ble_eq_true rfl) (Or.inl ⟨11, o_r0_11, rfl⟩) h ?_
    rintro _ μ5 ⟨rfl, h⟩ hn5
    show G Γ m_MO_readPlan (d + 1) (0, 0) Q 31 [.ref r0, .int x1, .int x2] [] μ5
    refine run_ok (pc' := 36) [(.aload_n 0, 0, 0, 0), (.getfield 141, 11, 11, 0), (.iconst (-1), 0, 0, 0)] _ _ _ _ (by decide +kernel) ?_
    show _ ∧ (_)
    refine ⟨((o_r0_11).mono hn5), ?_⟩
    show G Γ m_MO_readPlan (d + 1) (0, 0) Q 36 [.ref r0, .int x1, .int x2] [.int (w (-1)), .int (xI μ5 r0 11)] μ5
    refine g_icmp_eq (pc' := 40) (off := 4) (by decide) (by decide +kernel) (fun hc => ?_) (fun hc => ?_)
    · replace h := h.1 hc
      show G Γ m_MO_readPlan (d + 1) (0, 0) Q 40 [.ref r0, .int x1, .int x2] [] μ5
      refine run_ok (pc' := 44) [(.iinc 1 1, 0, 0, 0), (.aload_n 0, 0, 0, 0)] _ _ _ _ (by decide +kernel) ?_
      show G Γ m_MO_readPlan (d + 1) (0, 0) Q 44 [.ref r0, .int (x1 + w 1), .int x2] [.ref r0] μ5
      refine g_invV (M' := m_MO_look) (b1 := 0) (b2 := 0) (As := []) (a := r0) (st := []) lk_11_151 (by decide +kernel) rfl (dk_MO_look d) (Nat.le_of_ble_eq_true rfl) (Or.inl ⟨11, ((o_r0_11).mono hn5), rfl⟩) h ?_
      rintro _ μ6 ⟨v6, rfl, h⟩ hn6
      show G Γ m_MO_readPlan (d + 1) (0, 0) Q 47 [.ref r0, .int (x1 + w 1), .int x2] [.int v6] μ6
      refine run_ok (pc' := 49) [(.bipush 59, 0, 0, 0)] _ _ _ _ (by decide +kernel) ?_
      show G Γ m_MO_readPlan (d + 1) (0, 0) Q 49 [.ref r0, .int (x1 + w 1), .int x2] [.int (w 59), .int v6] μ6
      refine g_icmp_ne (pc' := 56) (off := 7) (by decide) (by decide +kernel) (fun hc => ?_) (fun hc => ?_)
      · replace h := h.2 hc
        show G Γ m_MO_readPlan (d + 1) (0, 0) Q 56 [.ref r0, .int (x1 + w 1), .int x2] [] μ6
        refine run_ok (pc' := 59) [(.iconst 0, 0, 0, 0), (.istore_n 2, 0, 0, 0), (.iload_n 2, 0, 0, 0)] _ _ _ _ (by decide +kernel) ?_
        show G Γ m_MO_readPlan (d + 1) (0, 0) Q 59 [.ref r0, .int (x1 + w 1), .int (w 0)] [.int (w 0)] μ6
        refine g_ifz_eq (pc' := 74) (off := 15) (by decide) (by decide +kernel) (fun hc => ?_) (fun hc => ?_)
        · replace h := h.1 hc
          show G Γ m_MO_readPlan (d + 1) (0, 0) Q 74 [.ref r0, .int (x1 + w 1), .int (w 0)] [] μ6
          refine run_ok (pc' := 75) [(.iload_n 2, 0, 0, 0)] _ _ _ _ (by decide +kernel) ?_
          show G Γ m_MO_readPlan (d + 1) (0, 0) Q 75 [.ref r0, .int (x1 + w 1), .int (w 0)] [.int (w 0)] μ6
          refine g_ifz_eq (pc' := 17) (off := (-58)) (by decide) (by decide +kernel) (fun hc => ?_) (fun hc => ?_)
          · replace h := h.1 hc
            show G Γ m_MO_readPlan (d + 1) (0, 0) Q 17 [.ref r0, .int (x1 + w 1), .int (w 0)] [] μ6
            exact h
          · replace h := h.2 hc
            show G Γ m_MO_readPlan (d + 1) (0, 0) Q 78 [.ref r0, .int (x1 + w 1), .int (w 0)] [] μ6
            refine run_ok (pc' := 88) [(.aload_n 0, 0, 0, 0), (.dup, 0, 0, 0), (.getfield 132, 11, 10, 0), (.iconst 1, 0, 0, 0), (.iadd, 0, 0, 0), (.putfield 132, 11, 10, 0)] _ _ _ _ (by decide +kernel) ?_
            show _ ∧ (_ ∧ (_))
            refine ⟨(((o_r0_11).mono hn5).mono hn6), (((o_r0_11).mono hn5).mono hn6), ?_⟩
            show G Γ m_MO_readPlan (d + 1) (0, 0) Q 88 [.ref r0, .int (x1 + w 1), .int (w 0)] [] (sI μ6 r0 10 ((xI μ6 r0 10) + (w 1)))
            obtain ⟨μ7, em7⟩ : ∃ m : XM, m = sI μ6 r0 10 ((xI μ6 r0 10) + (w 1)) := ⟨_, rfl⟩
            replace h := h μ7 em7
            have hm7 : xN μ6 ≤ xN μ7 := by rw [em7]; exact Nat.le_refl _
            rw [← em7]
            refine run_ok (pc' := 17) [(.goto (-71), 0, 0, 0)] _ _ _ _ (by decide +kernel) ?_
            show G Γ m_MO_readPlan (d + 1) (0, 0) Q 17 [.ref r0, .int (x1 + w 1), .int (w 0)] [] μ7
            exact h
        · replace h := h.2 hc
          show G Γ m_MO_readPlan (d + 1) (0, 0) Q 62 [.ref r0, .int (x1 + w 1), .int (w 0)] [] μ6
          refine run_ok (pc' := 65) [(.iload_n 1, 0, 0, 0), (.bipush 16, 0, 0, 0)] _ _ _ _ (by decide +kernel) ?_
          show G Γ m_MO_readPlan (d + 1) (0, 0) Q 65 [.ref r0, .int (x1 + w 1), .int (w 0)] [.int (w 16), .int (x1 + w 1)] μ6
          refine g_icmp_ne (pc' := 74) (off := 9) (by decide) (by decide +kernel) (fun hc => ?_) (fun hc => ?_)
          · replace h := h.2 hc
            show G Γ m_MO_readPlan (d + 1) (0, 0) Q 74 [.ref r0, .int (x1 + w 1), .int (w 0)] [] μ6
            refine run_ok (pc' := 75) [(.iload_n 2, 0, 0, 0)] _ _ _ _ (by decide +kernel) ?_
            show G Γ m_MO_readPlan (d + 1) (0, 0) Q 75 [.ref r0, .int (x1 + w 1), .int (w 0)] [.int (w 0)] μ6
            refine g_ifz_eq (pc' := 17) (off := (-58)) (by decide) (by decide +kernel) (fun hc => ?_) (fun hc => ?_)
            · replace h := h.1 hc
              show G Γ m_MO_readPlan (d + 1) (0, 0) Q 17 [.ref r0, .int (x1 + w 1), .int (w 0)] [] μ6
              exact h
            · replace h := h.2 hc
              show G Γ m_MO_readPlan (d + 1) (0, 0) Q 78 [.ref r0, .int (x1 + w 1), .int (w 0)] [] μ6
              refine run_ok (pc' := 88) [(.aload_n 0, 0, 0, 0), (.dup, 0, 0, 0), (.getfield 132, 11, 10, 0), (.iconst 1, 0, 0, 0), (.iadd, 0, 0, 0), (.putfield 132, 11, 10, 0)] _ _ _ _ (by decide +kernel) ?_
              show _ ∧ (_ ∧ (_))
              refine ⟨(((o_r0_11).mono hn5).mono hn6), (((o_r0_11).mono hn5).mono hn6), ?_⟩
              show G Γ m_MO_readPlan (d + 1) (0, 0) Q 88 [.ref r0, .int (x1 + w 1), .int (w 0)] [] (sI μ6 r0 10 ((xI μ6 r0 10) + (w 1)))
              obtain ⟨μ8, em8⟩ : ∃ m : XM, m = sI μ6 r0 10 ((xI μ6 r0 10) + (w 1)) := ⟨_, rfl⟩
              replace h := h μ8 em8
              have hm8 : xN μ6 ≤ xN μ8 := by rw [em8]; exact Nat.le_refl _
              rw [← em8]
              refine run_ok (pc' := 17) [(.goto (-71), 0, 0, 0)] _ _ _ _ (by decide +kernel) ?_
              show G Γ m_MO_readPlan (d + 1) (0, 0) Q 17 [.ref r0, .int (x1 + w 1), .int (w 0)] [] μ8
              exact h
          · replace h := h.1 hc
            show G Γ m_MO_readPlan (d + 1) (0, 0) Q 68 [.ref r0, .int (x1 + w 1), .int (w 0)] [] μ6
            refine run_ok (pc' := 69) [(.aload_n 0, 0, 0, 0)] _ _ _ _ (by decide +kernel) ?_
            show G Γ m_MO_readPlan (d + 1) (0, 0) Q 69 [.ref r0, .int (x1 + w 1), .int (w 0)] [.ref r0] μ6
            refine g_invV (M' := m_MO_fails) (b1 := 0) (b2 := 0) (As := []) (a := r0) (st := []) lk_11_147 (by decide +kernel) rfl (dk_MO_fails d) (Nat.le_of_ble_eq_true rfl) (Or.inl ⟨11, (((o_r0_11).mono hn5).mono hn6), rfl⟩) h ?_
            rintro _ μ9 ⟨v9, rfl, h⟩ hn9
            show G Γ m_MO_readPlan (d + 1) (0, 0) Q 72 [.ref r0, .int (x1 + w 1), .int (w 0)] [.int v9] μ9
            refine run_ok (pc' := 73) [(.pop, 0, 0, 0)] _ _ _ _ (by decide +kernel) ?_
            show G Γ m_MO_readPlan (d + 1) (0, 0) Q 73 [.ref r0, .int (x1 + w 1), .int (w 0)] [] μ9
            exact g_retv (by decide +kernel) rfl h
      · replace h := h.1 hc
        show G Γ m_MO_readPlan (d + 1) (0, 0) Q 52 [.ref r0, .int (x1 + w 1), .int x2] [] μ6
        refine run_ok (pc' := 59) [(.iconst 1, 0, 0, 0), (.goto 4, 0, 0, 0), (.istore_n 2, 0, 0, 0), (.iload_n 2, 0, 0, 0)] _ _ _ _ (by decide +kernel) ?_
        show G Γ m_MO_readPlan (d + 1) (0, 0) Q 59 [.ref r0, .int (x1 + w 1), .int (w 1)] [.int (w 1)] μ6
        refine g_ifz_eq (pc' := 74) (off := 15) (by decide) (by decide +kernel) (fun hc => ?_) (fun hc => ?_)
        · replace h := h.1 hc
          show G Γ m_MO_readPlan (d + 1) (0, 0) Q 74 [.ref r0, .int (x1 + w 1), .int (w 1)] [] μ6
          refine run_ok (pc' := 75) [(.iload_n 2, 0, 0, 0)] _ _ _ _ (by decide +kernel) ?_
          show G Γ m_MO_readPlan (d + 1) (0, 0) Q 75 [.ref r0, .int (x1 + w 1), .int (w 1)] [.int (w 1)] μ6
          refine g_ifz_eq (pc' := 17) (off := (-58)) (by decide) (by decide +kernel) (fun hc => ?_) (fun hc => ?_)
          · replace h := h.1 hc
            show G Γ m_MO_readPlan (d + 1) (0, 0) Q 17 [.ref r0, .int (x1 + w 1), .int (w 1)] [] μ6
            exact h
          · replace h := h.2 hc
            show G Γ m_MO_readPlan (d + 1) (0, 0) Q 78 [.ref r0, .int (x1 + w 1), .int (w 1)] [] μ6
            refine run_ok (pc' := 88) [(.aload_n 0, 0, 0, 0), (.dup, 0, 0, 0), (.getfield 132, 11, 10, 0), (.iconst 1, 0, 0, 0), (.iadd, 0, 0, 0), (.putfield 132, 11, 10, 0)] _ _ _ _ (by decide +kernel) ?_
            show _ ∧ (_ ∧ (_))
            refine ⟨(((o_r0_11).mono hn5).mono hn6), (((o_r0_11).mono hn5).mono hn6), ?_⟩
            show G Γ m_MO_readPlan (d + 1) (0, 0) Q 88 [.ref r0, .int (x1 + w 1), .int (w 1)] [] (sI μ6 r0 10 ((xI μ6 r0 10) + (w 1)))
            obtain ⟨μ10, em10⟩ : ∃ m : XM, m = sI μ6 r0 10 ((xI μ6 r0 10) + (w 1)) := ⟨_, rfl⟩
            replace h := h μ10 em10
            have hm10 : xN μ6 ≤ xN μ10 := by rw [em10]; exact Nat.le_refl _
            rw [← em10]
            refine run_ok (pc' := 17) [(.goto (-71), 0, 0, 0)] _ _ _ _ (by decide +kernel) ?_
            show G Γ m_MO_readPlan (d + 1) (0, 0) Q 17 [.ref r0, .int (x1 + w 1), .int (w 1)] [] μ10
            exact h
        · replace h := h.2 hc
          show G Γ m_MO_readPlan (d + 1) (0, 0) Q 62 [.ref r0, .int (x1 + w 1), .int (w 1)] [] μ6
          refine run_ok (pc' := 65) [(.iload_n 1, 0, 0, 0), (.bipush 16, 0, 0, 0)] _ _ _ _ (by decide +kernel) ?_
          show G Γ m_MO_readPlan (d + 1) (0, 0) Q 65 [.ref r0, .int (x1 + w 1), .int (w 1)] [.int (w 16), .int (x1 + w 1)] μ6
          refine g_icmp_ne (pc' := 74) (off := 9) (by decide) (by decide +kernel) (fun hc => ?_) (fun hc => ?_)
          · replace h := h.2 hc
            show G Γ m_MO_readPlan (d + 1) (0, 0) Q 74 [.ref r0, .int (x1 + w 1), .int (w 1)] [] μ6
            refine run_ok (pc' := 75) [(.iload_n 2, 0, 0, 0)] _ _ _ _ (by decide +kernel) ?_
            show G Γ m_MO_readPlan (d + 1) (0, 0) Q 75 [.ref r0, .int (x1 + w 1), .int (w 1)] [.int (w 1)] μ6
            refine g_ifz_eq (pc' := 17) (off := (-58)) (by decide) (by decide +kernel) (fun hc => ?_) (fun hc => ?_)
            · replace h := h.1 hc
              show G Γ m_MO_readPlan (d + 1) (0, 0) Q 17 [.ref r0, .int (x1 + w 1), .int (w 1)] [] μ6
              exact h
            · replace h := h.2 hc
              show G Γ m_MO_readPlan (d + 1) (0, 0) Q 78 [.ref r0, .int (x1 + w 1), .int (w 1)] [] μ6
              refine run_ok (pc' := 88) [(.aload_n 0, 0, 0, 0), (.dup, 0, 0, 0), (.getfield 132, 11, 10, 0), (.iconst 1, 0, 0, 0), (.iadd, 0, 0, 0), (.putfield 132, 11, 10, 0)] _ _ _ _ (by decide +kernel) ?_
              show _ ∧ (_ ∧ (_))
              refine ⟨(((o_r0_11).mono hn5).mono hn6), (((o_r0_11).mono hn5).mono hn6), ?_⟩
              show G Γ m_MO_readPlan (d + 1) (0, 0) Q 88 [.ref r0, .int (x1 + w 1), .int (w 1)] [] (sI μ6 r0 10 ((xI μ6 r0 10) + (w 1)))
              obtain ⟨μ11, em11⟩ : ∃ m : XM, m = sI μ6 r0 10 ((xI μ6 r0 10) + (w 1)) := ⟨_, rfl⟩
              replace h := h μ11 em11
              have hm11 : xN μ6 ≤ xN μ11 := by rw [em11]; exact Nat.le_refl _
              rw [← em11]
              refine run_ok (pc' := 17) [(.goto (-71), 0, 0, 0)] _ _ _ _ (by decide +kernel) ?_
              show G Γ m_MO_readPlan (d + 1) (0, 0) Q 17 [.ref r0, .int (x1 + w 1), .int (w 1)] [] μ11
              exact h
          · replace h := h.1 hc
            show G Γ m_MO_readPlan (d + 1) (0, 0) Q 68 [.ref r0, .int (x1 + w 1), .int (w 1)] [] μ6
            refine run_ok (pc' := 69) [(.aload_n 0, 0, 0, 0)] _ _ _ _ (by decide +kernel) ?_
            show G Γ m_MO_readPlan (d + 1) (0, 0) Q 69 [.ref r0, .int (x1 + w 1), .int (w 1)] [.ref r0] μ6
            refine g_invV (M' := m_MO_fails) (b1 := 0) (b2 := 0) (As := []) (a := r0) (st := []) lk_11_147 (by decide +kernel) rfl (dk_MO_fails d) (Nat.le_of_ble_eq_true rfl) (Or.inl ⟨11, (((o_r0_11).mono hn5).mono hn6), rfl⟩) h ?_
            rintro _ μ12 ⟨v12, rfl, h⟩ hn12
            show G Γ m_MO_readPlan (d + 1) (0, 0) Q 72 [.ref r0, .int (x1 + w 1), .int (w 1)] [.int v12] μ12
            refine run_ok (pc' := 73) [(.pop, 0, 0, 0)] _ _ _ _ (by decide +kernel) ?_
            show G Γ m_MO_readPlan (d + 1) (0, 0) Q 73 [.ref r0, .int (x1 + w 1), .int (w 1)] [] μ12
            exact g_retv (by decide +kernel) rfl h
    · replace h := h.2 hc
      show G Γ m_MO_readPlan (d + 1) (0, 0) Q 39 [.ref r0, .int x1, .int x2] [] μ5
      exact g_retv (by decide +kernel) rfl h
/-! FrostBoxModel fault(I)I -/
set_option maxRecDepth 100000 in
theorem lk_11_296 : LkV 11 296 m_MO_readPlan 0 := ⟨lc_MO_readPlan, lwG_in (List.mem_of_getElem? (i := 1567) rfl) rfl, lwG_in (List.mem_of_getElem? (i := 1569) rfl) rfl, lwG_in (List.mem_of_getElem? (i := 72) rfl) rfl⟩
set_option maxRecDepth 100000 in
theorem lk_11_293 : LkV 11 293 m_MO_goThrough 3 := ⟨lc_MO_goThrough, lwG_in (List.mem_of_getElem? (i := 1510) rfl) rfl, lwG_in (List.mem_of_getElem? (i := 1512) rfl) rfl, lwG_in (List.mem_of_getElem? (i := 61) rfl) rfl⟩
set_option maxRecDepth 100000 in
theorem lk_11_290 : LkV 11 290 m_MO_readHouse 0 := ⟨lc_MO_readHouse, lwG_in (List.mem_of_getElem? (i := 1404) rfl) rfl, lwG_in (List.mem_of_getElem? (i := 1406) rfl) rfl, lwG_in (List.mem_of_getElem? (i := 51) rfl) rfl⟩
set_option maxRecDepth 100000 in
theorem B_MO_fault_0 {Γ : XG} {d : Nat} {Q : Option Value → XM → Prop} {r0 : Nat} {x1 : Int32} {μ : XM} (o_r0_11 : ob μ r0 11) (h : ∀ μ1, μ1 = sI μ r0 0 (w 0) → Call Γ m_MO_isIn d [.long (x1.toInt64), .long (wl 0), .long (wl 2)] μ1 (KI (fun v2 μ2 => ((v2 = w 0 → Q (some (.int (w (-2)))) μ2) ∧ (¬ v2 = w 0 → ((x1 = w 0 → Call Γ m_MO_readHouse d [.ref r0] μ2 (KV (fun μ7 => ((x1 = w 1 → ∃ a9, xR μ7 r0 1 = some a9 ∧ Call Γ m_MO_goThrough d [.ref r0, .ref a9, .int (w 0), .int (xI μ7 r0 6)] μ7 (KV (fun μ10 => ((x1 = w 2 → Call Γ m_MO_readPlan d [.ref r0] μ10 (KV (fun μ11 => Q (some (.int (xI μ11 r0 11))) μ11))) ∧ (¬ x1 = w 2 → Q (some (.int (xI μ10 r0 11))) μ10))))) ∧ (¬ x1 = w 1 → ((x1 = w 2 → Call Γ m_MO_readPlan d [.ref r0] μ7 (KV (fun μ8 => Q (some (.int (xI μ8 r0 11))) μ8))) ∧ (¬ x1 = w 2 → Q (some (.int (xI μ7 r0 11))) μ7))))))) ∧ (¬ x1 = w 0 → ((x1 = w 1 → ∃ a4, xR μ2 r0 1 = some a4 ∧ Call Γ m_MO_goThrough d [.ref r0, .ref a4, .int (w 0), .int (xI μ2 r0 6)] μ2 (KV (fun μ5 => ((x1 = w 2 → Call Γ m_MO_readPlan d [.ref r0] μ5 (KV (fun μ6 => Q (some (.int (xI μ6 r0 11))) μ6))) ∧ (¬ x1 = w 2 → Q (some (.int (xI μ5 r0 11))) μ5))))) ∧ (¬ x1 = w 1 → ((x1 = w 2 → Call Γ m_MO_readPlan d [.ref r0] μ2 (KV (fun μ3 => Q (some (.int (xI μ3 r0 11))) μ3))) ∧ (¬ x1 = w 2 → Q (some (.int (xI μ2 r0 11))) μ2))))))))))) : G Γ m_MO_fault (d + 1) (0, 0) Q 0 [.ref r0, .int x1] [] μ := by
  refine run_ok (pc' := 5) [(.aload_n 0, 0, 0, 0), (.iconst 0, 0, 0, 0), (.putfield 109, 11, 0, 0)] _ _ _ _ (by decide +kernel) ?_
  show _ ∧ (_)
  refine ⟨o_r0_11, ?_⟩
  show G Γ m_MO_fault (d + 1) (0, 0) Q 5 [.ref r0, .int x1] [] (sI μ r0 0 (w 0))
  obtain ⟨μ1, em1⟩ : ∃ m : XM, m = sI μ r0 0 (w 0) := ⟨_, rfl⟩
  replace h := h μ1 em1
  have hm1 : xN μ ≤ xN μ1 := by rw [em1]; exact Nat.le_refl _
  rw [← em1]
  refine run_ok (pc' := 11) [(.iload_n 1, 0, 0, 0), (.i2l, 0, 0, 0), (.lconst 0, 0, 0, 0), (.ldc2_w 288, 0, 0, 2)] _ _ _ _ (by decide +kernel) ?_
  show G Γ m_MO_fault (d + 1) (0, 0) Q 11 [.ref r0, .int x1] [.long (wl 2), .long (wl 0), .long (x1.toInt64)] μ1
  refine g_invS (M' := m_MO_isIn) (b1 := 0) (b2 := 0) (As := [.long (x1.toInt64), .long (wl 0), .long (wl 2)]) (st := []) lk_11_230 (by decide +kernel) rfl (dk_MO_isIn d) (Nat.le_of_ble_eq_true rfl) h ?_
  rintro _ μ2 ⟨v2, rfl, h⟩ hn2
  show G Γ m_MO_fault (d + 1) (0, 0) Q 14 [.ref r0, .int x1] [.int v2] μ2
  refine g_ifz_ne (pc' := 20) (off := 6) (by decide) (by decide +kernel) (fun hc => ?_) (fun hc => ?_)
  · replace h := h.2 hc
    show G Γ m_MO_fault (d + 1) (0, 0) Q 20 [.ref r0, .int x1] [] μ2
    refine run_ok (pc' := 21) [(.iload_n 1, 0, 0, 0)] _ _ _ _ (by decide +kernel) ?_
    show G Γ m_MO_fault (d + 1) (0, 0) Q 21 [.ref r0, .int x1] [.int x1] μ2
    refine g_ifz_ne (pc' := 28) (off := 7) (by decide) (by decide +kernel) (fun hc => ?_) (fun hc => ?_)
    · replace h := h.2 hc
      show G Γ m_MO_fault (d + 1) (0, 0) Q 28 [.ref r0, .int x1] [] μ2
      refine run_ok (pc' := 30) [(.iload_n 1, 0, 0, 0), (.iconst 1, 0, 0, 0)] _ _ _ _ (by decide +kernel) ?_
      show G Γ m_MO_fault (d + 1) (0, 0) Q 30 [.ref r0, .int x1] [.int (w 1), .int x1] μ2
      refine g_icmp_ne (pc' := 46) (off := 16) (by decide) (by decide +kernel) (fun hc => ?_) (fun hc => ?_)
      · replace h := h.2 hc
        show G Γ m_MO_fault (d + 1) (0, 0) Q 46 [.ref r0, .int x1] [] μ2
        refine run_ok (pc' := 48) [(.iload_n 1, 0, 0, 0), (.iconst 2, 0, 0, 0)] _ _ _ _ (by decide +kernel) ?_
        show G Γ m_MO_fault (d + 1) (0, 0) Q 48 [.ref r0, .int x1] [.int (w 2), .int x1] μ2
        refine g_icmp_ne (pc' := 55) (off := 7) (by decide) (by decide +kernel) (fun hc => ?_) (fun hc => ?_)
        · replace h := h.2 hc
          show G Γ m_MO_fault (d + 1) (0, 0) Q 55 [.ref r0, .int x1] [] μ2
          refine run_ok (pc' := 59) [(.aload_n 0, 0, 0, 0), (.getfield 141, 11, 11, 0)] _ _ _ _ (by decide +kernel) ?_
          show _ ∧ (_)
          refine ⟨(((o_r0_11).mono hm1).mono hn2), ?_⟩
          show G Γ m_MO_fault (d + 1) (0, 0) Q 59 [.ref r0, .int x1] [.int (xI μ2 r0 11)] μ2
          exact g_reti (by decide +kernel) rfl h
        · replace h := h.1 hc
          show G Γ m_MO_fault (d + 1) (0, 0) Q 51 [.ref r0, .int x1] [] μ2
          refine run_ok (pc' := 52) [(.aload_n 0, 0, 0, 0)] _ _ _ _ (by decide +kernel) ?_
          show G Γ m_MO_fault (d + 1) (0, 0) Q 52 [.ref r0, .int x1] [.ref r0] μ2
          refine g_invV (M' := m_MO_readPlan) (b1 := 0) (b2 := 0) (As := []) (a := r0) (st := []) lk_11_296 (by decide +kernel) rfl (dk_MO_readPlan d) (Nat.le_of_ble_eq_true rfl) (Or.inl ⟨11, (((o_r0_11).mono hm1).mono hn2), rfl⟩) h ?_
          rintro _ μ3 ⟨rfl, h⟩ hn3
          show G Γ m_MO_fault (d + 1) (0, 0) Q 55 [.ref r0, .int x1] [] μ3
          refine run_ok (pc' := 59) [(.aload_n 0, 0, 0, 0), (.getfield 141, 11, 11, 0)] _ _ _ _ (by decide +kernel) ?_
          show _ ∧ (_)
          refine ⟨((((o_r0_11).mono hm1).mono hn2).mono hn3), ?_⟩
          show G Γ m_MO_fault (d + 1) (0, 0) Q 59 [.ref r0, .int x1] [.int (xI μ3 r0 11)] μ3
          exact g_reti (by decide +kernel) rfl h
      · replace h := h.1 hc
        show G Γ m_MO_fault (d + 1) (0, 0) Q 33 [.ref r0, .int x1] [] μ2
        obtain ⟨a4, ea4, h⟩ := h
        refine run_ok (pc' := 43) [(.aload_n 0, 0, 0, 0), (.aload_n 0, 0, 0, 0), (.getfield 9, 11, 1, 2), (.iconst 0, 0, 0, 0), (.aload_n 0, 0, 0, 0), (.getfield 122, 11, 6, 0)] _ _ _ _ (by decide +kernel) ?_
        show _ ∧ (∃ _, _ ∧ (_ ∧ (_)))
        refine ⟨(((o_r0_11).mono hm1).mono hn2), a4, ea4, (((o_r0_11).mono hm1).mono hn2), ?_⟩
        show G Γ m_MO_fault (d + 1) (0, 0) Q 43 [.ref r0, .int x1] [.int (xI μ2 r0 6), .int (w 0), .ref a4, .ref r0] μ2
        refine g_invV (M' := m_MO_goThrough) (b1 := 0) (b2 := 0) (As := [.ref a4, .int (w 0), .int (xI μ2 r0 6)]) (a := r0) (st := []) lk_11_293 (by decide +kernel) rfl (dk_MO_goThrough d) (Nat.le_of_ble_eq_true rfl) (Or.inl ⟨11, (((o_r0_11).mono hm1).mono hn2), rfl⟩) h ?_
        rintro _ μ5 ⟨rfl, h⟩ hn5
        show G Γ m_MO_fault (d + 1) (0, 0) Q 46 [.ref r0, .int x1] [] μ5
        refine run_ok (pc' := 48) [(.iload_n 1, 0, 0, 0), (.iconst 2, 0, 0, 0)] _ _ _ _ (by decide +kernel) ?_
        show G Γ m_MO_fault (d + 1) (0, 0) Q 48 [.ref r0, .int x1] [.int (w 2), .int x1] μ5
        refine g_icmp_ne (pc' := 55) (off := 7) (by decide) (by decide +kernel) (fun hc => ?_) (fun hc => ?_)
        · replace h := h.2 hc
          show G Γ m_MO_fault (d + 1) (0, 0) Q 55 [.ref r0, .int x1] [] μ5
          refine run_ok (pc' := 59) [(.aload_n 0, 0, 0, 0), (.getfield 141, 11, 11, 0)] _ _ _ _ (by decide +kernel) ?_
          show _ ∧ (_)
          refine ⟨((((o_r0_11).mono hm1).mono hn2).mono hn5), ?_⟩
          show G Γ m_MO_fault (d + 1) (0, 0) Q 59 [.ref r0, .int x1] [.int (xI μ5 r0 11)] μ5
          exact g_reti (by decide +kernel) rfl h
        · replace h := h.1 hc
          show G Γ m_MO_fault (d + 1) (0, 0) Q 51 [.ref r0, .int x1] [] μ5
          refine run_ok (pc' := 52) [(.aload_n 0, 0, 0, 0)] _ _ _ _ (by decide +kernel) ?_
          show G Γ m_MO_fault (d + 1) (0, 0) Q 52 [.ref r0, .int x1] [.ref r0] μ5
          refine g_invV (M' := m_MO_readPlan) (b1 := 0) (b2 := 0) (As := []) (a := r0) (st := []) lk_11_296 (by decide +kernel) rfl (dk_MO_readPlan d) (Nat.le_of_ble_eq_true rfl) (Or.inl ⟨11, ((((o_r0_11).mono hm1).mono hn2).mono hn5), rfl⟩) h ?_
          rintro _ μ6 ⟨rfl, h⟩ hn6
          show G Γ m_MO_fault (d + 1) (0, 0) Q 55 [.ref r0, .int x1] [] μ6
          refine run_ok (pc' := 59) [(.aload_n 0, 0, 0, 0), (.getfield 141, 11, 11, 0)] _ _ _ _ (by decide +kernel) ?_
          show _ ∧ (_)
          refine ⟨(((((o_r0_11).mono hm1).mono hn2).mono hn5).mono hn6), ?_⟩
          show G Γ m_MO_fault (d + 1) (0, 0) Q 59 [.ref r0, .int x1] [.int (xI μ6 r0 11)] μ6
          exact g_reti (by decide +kernel) rfl h
    · replace h := h.1 hc
      show G Γ m_MO_fault (d + 1) (0, 0) Q 24 [.ref r0, .int x1] [] μ2
      refine run_ok (pc' := 25) [(.aload_n 0, 0, 0, 0)] _ _ _ _ (by decide +kernel) ?_
      show G Γ m_MO_fault (d + 1) (0, 0) Q 25 [.ref r0, .int x1] [.ref r0] μ2
      refine g_invV (M' := m_MO_readHouse) (b1 := 0) (b2 := 0) (As := []) (a := r0) (st := []) lk_11_290 (by decide +kernel) rfl (dk_MO_readHouse d) (Nat.le_of_ble_eq_true rfl) (Or.inl ⟨11, (((o_r0_11).mono hm1).mono hn2), rfl⟩) h ?_
      rintro _ μ7 ⟨rfl, h⟩ hn7
      show G Γ m_MO_fault (d + 1) (0, 0) Q 28 [.ref r0, .int x1] [] μ7
      refine run_ok (pc' := 30) [(.iload_n 1, 0, 0, 0), (.iconst 1, 0, 0, 0)] _ _ _ _ (by decide +kernel) ?_
      show G Γ m_MO_fault (d + 1) (0, 0) Q 30 [.ref r0, .int x1] [.int (w 1), .int x1] μ7
      refine g_icmp_ne (pc' := 46) (off := 16) (by decide) (by decide +kernel) (fun hc => ?_) (fun hc => ?_)
      · replace h := h.2 hc
        show G Γ m_MO_fault (d + 1) (0, 0) Q 46 [.ref r0, .int x1] [] μ7
        refine run_ok (pc' := 48) [(.iload_n 1, 0, 0, 0), (.iconst 2, 0, 0, 0)] _ _ _ _ (by decide +kernel) ?_
        show G Γ m_MO_fault (d + 1) (0, 0) Q 48 [.ref r0, .int x1] [.int (w 2), .int x1] μ7
        refine g_icmp_ne (pc' := 55) (off := 7) (by decide) (by decide +kernel) (fun hc => ?_) (fun hc => ?_)
        · replace h := h.2 hc
          show G Γ m_MO_fault (d + 1) (0, 0) Q 55 [.ref r0, .int x1] [] μ7
          refine run_ok (pc' := 59) [(.aload_n 0, 0, 0, 0), (.getfield 141, 11, 11, 0)] _ _ _ _ (by decide +kernel) ?_
          show _ ∧ (_)
          refine ⟨((((o_r0_11).mono hm1).mono hn2).mono hn7), ?_⟩
          show G Γ m_MO_fault (d + 1) (0, 0) Q 59 [.ref r0, .int x1] [.int (xI μ7 r0 11)] μ7
          exact g_reti (by decide +kernel) rfl h
        · replace h := h.1 hc
          show G Γ m_MO_fault (d + 1) (0, 0) Q 51 [.ref r0, .int x1] [] μ7
          refine run_ok (pc' := 52) [(.aload_n 0, 0, 0, 0)] _ _ _ _ (by decide +kernel) ?_
          show G Γ m_MO_fault (d + 1) (0, 0) Q 52 [.ref r0, .int x1] [.ref r0] μ7
          refine g_invV (M' := m_MO_readPlan) (b1 := 0) (b2 := 0) (As := []) (a := r0) (st := []) lk_11_296 (by decide +kernel) rfl (dk_MO_readPlan d) (Nat.le_of_ble_eq_true rfl) (Or.inl ⟨11, ((((o_r0_11).mono hm1).mono hn2).mono hn7), rfl⟩) h ?_
          rintro _ μ8 ⟨rfl, h⟩ hn8
          show G Γ m_MO_fault (d + 1) (0, 0) Q 55 [.ref r0, .int x1] [] μ8
          refine run_ok (pc' := 59) [(.aload_n 0, 0, 0, 0), (.getfield 141, 11, 11, 0)] _ _ _ _ (by decide +kernel) ?_
          show _ ∧ (_)
          refine ⟨(((((o_r0_11).mono hm1).mono hn2).mono hn7).mono hn8), ?_⟩
          show G Γ m_MO_fault (d + 1) (0, 0) Q 59 [.ref r0, .int x1] [.int (xI μ8 r0 11)] μ8
          exact g_reti (by decide +kernel) rfl h
      · replace h := h.1 hc
        show G Γ m_MO_fault (d + 1) (0, 0) Q 33 [.ref r0, .int x1] [] μ7
        obtain ⟨a9, ea9, h⟩ := h
        refine run_ok (pc' := 43) [(.aload_n 0, 0, 0, 0), (.aload_n 0, 0, 0, 0), (.getfield 9, 11, 1, 2), (.iconst 0, 0, 0, 0), (.aload_n 0, 0, 0, 0), (.getfield 122, 11, 6, 0)] _ _ _ _ (by decide +kernel) ?_
        show _ ∧ (∃ _, _ ∧ (_ ∧ (_)))
        refine ⟨((((o_r0_11).mono hm1).mono hn2).mono hn7), a9, ea9, ((((o_r0_11).mono hm1).mono hn2).mono hn7), ?_⟩
        show G Γ m_MO_fault (d + 1) (0, 0) Q 43 [.ref r0, .int x1] [.int (xI μ7 r0 6), .int (w 0), .ref a9, .ref r0] μ7
        refine g_invV (M' := m_MO_goThrough) (b1 := 0) (b2 := 0) (As := [.ref a9, .int (w 0), .int (xI μ7 r0 6)]) (a := r0) (st := []) lk_11_293 (by decide +kernel) rfl (dk_MO_goThrough d) (Nat.le_of_ble_eq_true rfl) (Or.inl ⟨11, ((((o_r0_11).mono hm1).mono hn2).mono hn7), rfl⟩) h ?_
        rintro _ μ10 ⟨rfl, h⟩ hn10
        show G Γ m_MO_fault (d + 1) (0, 0) Q 46 [.ref r0, .int x1] [] μ10
        refine run_ok (pc' := 48) [(.iload_n 1, 0, 0, 0), (.iconst 2, 0, 0, 0)] _ _ _ _ (by decide +kernel) ?_
        show G Γ m_MO_fault (d + 1) (0, 0) Q 48 [.ref r0, .int x1] [.int (w 2), .int x1] μ10
        refine g_icmp_ne (pc' := 55) (off := 7) (by decide) (by decide +kernel) (fun hc => ?_) (fun hc => ?_)
        · replace h := h.2 hc
          show G Γ m_MO_fault (d + 1) (0, 0) Q 55 [.ref r0, .int x1] [] μ10
          refine run_ok (pc' := 59) [(.aload_n 0, 0, 0, 0), (.getfield 141, 11, 11, 0)] _ _ _ _ (by decide +kernel) ?_
          show _ ∧ (_)
          refine ⟨(((((o_r0_11).mono hm1).mono hn2).mono hn7).mono hn10), ?_⟩
          show G Γ m_MO_fault (d + 1) (0, 0) Q 59 [.ref r0, .int x1] [.int (xI μ10 r0 11)] μ10
          exact g_reti (by decide +kernel) rfl h
        · replace h := h.1 hc
          show G Γ m_MO_fault (d + 1) (0, 0) Q 51 [.ref r0, .int x1] [] μ10
          refine run_ok (pc' := 52) [(.aload_n 0, 0, 0, 0)] _ _ _ _ (by decide +kernel) ?_
          show G Γ m_MO_fault (d + 1) (0, 0) Q 52 [.ref r0, .int x1] [.ref r0] μ10
          refine g_invV (M' := m_MO_readPlan) (b1 := 0) (b2 := 0) (As := []) (a := r0) (st := []) lk_11_296 (by decide +kernel) rfl (dk_MO_readPlan d) (Nat.le_of_ble_eq_true rfl) (Or.inl ⟨11, (((((o_r0_11).mono hm1).mono hn2).mono hn7).mono hn10), rfl⟩) h ?_
          rintro _ μ11 ⟨rfl, h⟩ hn11
          show G Γ m_MO_fault (d + 1) (0, 0) Q 55 [.ref r0, .int x1] [] μ11
          refine run_ok (pc' := 59) [(.aload_n 0, 0, 0, 0), (.getfield 141, 11, 11, 0)] _ _ _ _ (by decide +kernel) ?_
          show _ ∧ (_)
          refine ⟨((((((o_r0_11).mono hm1).mono hn2).mono hn7).mono hn10).mono hn11), ?_⟩
          show G Γ m_MO_fault (d + 1) (0, 0) Q 59 [.ref r0, .int x1] [.int (xI μ11 r0 11)] μ11
          exact g_reti (by decide +kernel) rfl h
  · replace h := h.1 hc
    show G Γ m_MO_fault (d + 1) (0, 0) Q 17 [.ref r0, .int x1] [] μ2
    refine run_ok (pc' := 19) [(.bipush (-2), 0, 0, 0)] _ _ _ _ (by decide +kernel) ?_
    show G Γ m_MO_fault (d + 1) (0, 0) Q 19 [.ref r0, .int x1] [.int (w (-2))] μ2
    exact g_reti (by decide +kernel) rfl h
/-! FrostBoxModel text(I)I -/
set_option maxRecDepth 100000 in
theorem lk_11_305 : LkV 11 305 m_MO_fault 1 := ⟨lc_MO_fault, lwG_in (List.mem_of_getElem? (i := 1584) rfl) rfl, lwG_in (List.mem_of_getElem? (i := 1397) rfl) rfl, lwG_in (List.mem_of_getElem? (i := 1398) rfl) rfl⟩
set_option maxRecDepth 100000 in
theorem B_MO_text_0 {Γ : XG} {d : Nat} {Q : Option Value → XM → Prop} {r0 : Nat} {x1 : Int32} {μ : XM} (o_r0_11 : ob μ r0 11) (h : ∀ μ1, μ1 = sI μ r0 0 (w 0) → Call Γ m_MO_isIn d [.long (x1.toInt64), .long (wl 0), .long (wl 2)] μ1 (KI (fun v2 μ2 => ((v2 = w 0 → Q (some (.int (w (-1)))) μ2) ∧ (¬ v2 = w 0 → ((x1 = w 1 → ((xI μ2 r0 7 = w 4 → Q (some (.int (w (-1)))) μ2) ∧ (¬ xI μ2 r0 7 = w 4 → G Γ m_MO_text (d + 1) (0, 0) Q 30 [.ref r0, .int x1] [] μ2))) ∧ (¬ x1 = w 1 → G Γ m_MO_text (d + 1) (0, 0) Q 30 [.ref r0, .int x1] [] μ2))))))) : G Γ m_MO_text (d + 1) (0, 0) Q 0 [.ref r0, .int x1] [] μ := by
  refine run_ok (pc' := 5) [(.aload_n 0, 0, 0, 0), (.iconst 0, 0, 0, 0), (.putfield 109, 11, 0, 0)] _ _ _ _ (by decide +kernel) ?_
  show _ ∧ (_)
  refine ⟨o_r0_11, ?_⟩
  show G Γ m_MO_text (d + 1) (0, 0) Q 5 [.ref r0, .int x1] [] (sI μ r0 0 (w 0))
  obtain ⟨μ1, em1⟩ : ∃ m : XM, m = sI μ r0 0 (w 0) := ⟨_, rfl⟩
  replace h := h μ1 em1
  have hm1 : xN μ ≤ xN μ1 := by rw [em1]; exact Nat.le_refl _
  rw [← em1]
  refine run_ok (pc' := 11) [(.iload_n 1, 0, 0, 0), (.i2l, 0, 0, 0), (.lconst 0, 0, 0, 0), (.ldc2_w 288, 0, 0, 2)] _ _ _ _ (by decide +kernel) ?_
  show G Γ m_MO_text (d + 1) (0, 0) Q 11 [.ref r0, .int x1] [.long (wl 2), .long (wl 0), .long (x1.toInt64)] μ1
  refine g_invS (M' := m_MO_isIn) (b1 := 0) (b2 := 0) (As := [.long (x1.toInt64), .long (wl 0), .long (wl 2)]) (st := []) lk_11_230 (by decide +kernel) rfl (dk_MO_isIn d) (Nat.le_of_ble_eq_true rfl) h ?_
  rintro _ μ2 ⟨v2, rfl, h⟩ hn2
  show G Γ m_MO_text (d + 1) (0, 0) Q 14 [.ref r0, .int x1] [.int v2] μ2
  refine g_ifz_eq (pc' := 52) (off := 38) (by decide) (by decide +kernel) (fun hc => ?_) (fun hc => ?_)
  · replace h := h.1 hc
    show G Γ m_MO_text (d + 1) (0, 0) Q 52 [.ref r0, .int x1] [] μ2
    refine run_ok (pc' := 53) [(.iconst (-1), 0, 0, 0)] _ _ _ _ (by decide +kernel) ?_
    show G Γ m_MO_text (d + 1) (0, 0) Q 53 [.ref r0, .int x1] [.int (w (-1))] μ2
    exact g_reti (by decide +kernel) rfl h
  · replace h := h.2 hc
    show G Γ m_MO_text (d + 1) (0, 0) Q 17 [.ref r0, .int x1] [] μ2
    refine run_ok (pc' := 19) [(.iload_n 1, 0, 0, 0), (.iconst 1, 0, 0, 0)] _ _ _ _ (by decide +kernel) ?_
    show G Γ m_MO_text (d + 1) (0, 0) Q 19 [.ref r0, .int x1] [.int (w 1), .int x1] μ2
    refine g_icmp_ne (pc' := 30) (off := 11) (by decide) (by decide +kernel) (fun hc => ?_) (fun hc => ?_)
    · replace h := h.2 hc
      show G Γ m_MO_text (d + 1) (0, 0) Q 30 [.ref r0, .int x1] [] μ2
      exact h
    · replace h := h.1 hc
      show G Γ m_MO_text (d + 1) (0, 0) Q 22 [.ref r0, .int x1] [] μ2
      refine run_ok (pc' := 27) [(.aload_n 0, 0, 0, 0), (.getfield 299, 11, 7, 0), (.iconst 4, 0, 0, 0)] _ _ _ _ (by decide +kernel) ?_
      show _ ∧ (_)
      refine ⟨(((o_r0_11).mono hm1).mono hn2), ?_⟩
      show G Γ m_MO_text (d + 1) (0, 0) Q 27 [.ref r0, .int x1] [.int (w 4), .int (xI μ2 r0 7)] μ2
      refine g_icmp_eq (pc' := 52) (off := 25) (by decide) (by decide +kernel) (fun hc => ?_) (fun hc => ?_)
      · replace h := h.1 hc
        show G Γ m_MO_text (d + 1) (0, 0) Q 52 [.ref r0, .int x1] [] μ2
        refine run_ok (pc' := 53) [(.iconst (-1), 0, 0, 0)] _ _ _ _ (by decide +kernel) ?_
        show G Γ m_MO_text (d + 1) (0, 0) Q 53 [.ref r0, .int x1] [.int (w (-1))] μ2
        exact g_reti (by decide +kernel) rfl h
      · replace h := h.2 hc
        show G Γ m_MO_text (d + 1) (0, 0) Q 30 [.ref r0, .int x1] [] μ2
        exact h
set_option maxRecDepth 100000 in
theorem B_MO_text_30 {Γ : XG} {d : Nat} {Q : Option Value → XM → Prop} {r0 : Nat} {x1 : Int32} {μ : XM} (o_r0_11 : ob μ r0 11) (h : ((x1 = w 2 → ((xI μ r0 28 = w 4 → Q (some (.int (w (-1)))) μ) ∧ (¬ xI μ r0 28 = w 4 → Call Γ m_MO_fault d [.ref r0, .int x1] μ (KI (fun v4 μ4 => ((v4 = w (-1) → ∀ μ5, μ5 = sI μ4 r0 6 (w 0) → ((x1 = w 1 → G Γ m_MO_text (d + 1) (0, 0) Q 71 [.ref r0, jk, .int (xI μ4 r0 6), .int (w 0)] [] μ5) ∧ (¬ x1 = w 1 → ((x1 = w 2 → G Γ m_MO_text (d + 1) (0, 0) Q 137 [.ref r0, jk, jk, .int (w 0)] [] μ5) ∧ (¬ x1 = w 2 → ∀ μ6, μ6 = sI μ5 r0 25 (xI μ5 r0 26) → G Γ m_MO_text (d + 1) (0, 0) Q 215 [.ref r0, jk, jk, .int (w 0)] [] μ6))))) ∧ (¬ v4 = w (-1) → Q (some (.int (w (-1)))) μ4))))))) ∧ (¬ x1 = w 2 → Call Γ m_MO_fault d [.ref r0, .int x1] μ (KI (fun v1 μ1 => ((v1 = w (-1) → ∀ μ2, μ2 = sI μ1 r0 6 (w 0) → ((x1 = w 1 → G Γ m_MO_text (d + 1) (0, 0) Q 71 [.ref r0, jk, .int (xI μ1 r0 6), .int (w 0)] [] μ2) ∧ (¬ x1 = w 1 → ((x1 = w 2 → G Γ m_MO_text (d + 1) (0, 0) Q 137 [.ref r0, jk, jk, .int (w 0)] [] μ2) ∧ (¬ x1 = w 2 → ∀ μ3, μ3 = sI μ2 r0 25 (xI μ2 r0 26) → G Γ m_MO_text (d + 1) (0, 0) Q 215 [.ref r0, jk, jk, .int (w 0)] [] μ3))))) ∧ (¬ v1 = w (-1) → Q (some (.int (w (-1)))) μ1))))))) : G Γ m_MO_text (d + 1) (0, 0) Q 30 [.ref r0, .int x1] [] μ := by
  refine run_ok (pc' := 32) [(.iload_n 1, 0, 0, 0), (.iconst 2, 0, 0, 0)] _ _ _ _ (by decide +kernel) ?_
  show G Γ m_MO_text (d + 1) (0, 0) Q 32 [.ref r0, .int x1] [.int (w 2), .int x1] μ
  refine g_icmp_ne (pc' := 43) (off := 11) (by decide) (by decide +kernel) (fun hc => ?_) (fun hc => ?_)
  · replace h := h.2 hc
    show G Γ m_MO_text (d + 1) (0, 0) Q 43 [.ref r0, .int x1] [] μ
    refine run_ok (pc' := 45) [(.aload_n 0, 0, 0, 0), (.iload_n 1, 0, 0, 0)] _ _ _ _ (by decide +kernel) ?_
    show G Γ m_MO_text (d + 1) (0, 0) Q 45 [.ref r0, .int x1] [.int x1, .ref r0] μ
    refine g_invV (M' := m_MO_fault) (b1 := 0) (b2 := 0) (As := [.int x1]) (a := r0) (st := []) lk_11_305 (by decide +kernel) rfl (dk_MO_fault d) (Nat.le_of_ble_eq_true rfl) (Or.inl ⟨11, o_r0_11, rfl⟩) h ?_
    rintro _ μ1 ⟨v1, rfl, h⟩ hn1
    show G Γ m_MO_text (d + 1) (0, 0) Q 48 [.ref r0, .int x1] [.int v1] μ1
    refine run_ok (pc' := 49) [(.iconst (-1), 0, 0, 0)] _ _ _ _ (by decide +kernel) ?_
    show G Γ m_MO_text (d + 1) (0, 0) Q 49 [.ref r0, .int x1] [.int (w (-1)), .int v1] μ1
    refine g_icmp_eq (pc' := 54) (off := 5) (by decide) (by decide +kernel) (fun hc => ?_) (fun hc => ?_)
    · replace h := h.1 hc
      show G Γ m_MO_text (d + 1) (0, 0) Q 54 [.ref r0, .int x1] [] μ1
      refine run_ok (pc' := 64) [(.aload_n 0, 0, 0, 0), (.getfield 122, 11, 6, 0), (.istore_n 2, 0, 0, 0), (.aload_n 0, 0, 0, 0), (.iconst 0, 0, 0, 0), (.putfield 122, 11, 6, 0)] _ _ _ _ (by decide +kernel) ?_
      show _ ∧ (_ ∧ (_))
      refine ⟨((o_r0_11).mono hn1), ((o_r0_11).mono hn1), ?_⟩
      show G Γ m_MO_text (d + 1) (0, 0) Q 64 [.ref r0, .int x1, .int (xI μ1 r0 6)] [] (sI μ1 r0 6 (w 0))
      obtain ⟨μ2, em2⟩ : ∃ m : XM, m = sI μ1 r0 6 (w 0) := ⟨_, rfl⟩
      replace h := h μ2 em2
      have hm2 : xN μ1 ≤ xN μ2 := by rw [em2]; exact Nat.le_refl _
      rw [← em2]
      refine run_ok (pc' := 66) [(.iload_n 1, 0, 0, 0), (.iconst 1, 0, 0, 0)] _ _ _ _ (by decide +kernel) ?_
      show G Γ m_MO_text (d + 1) (0, 0) Q 66 [.ref r0, .int x1, .int (xI μ1 r0 6)] [.int (w 1), .int x1] μ2
      refine g_icmp_ne (pc' := 130) (off := 64) (by decide) (by decide +kernel) (fun hc => ?_) (fun hc => ?_)
      · replace h := h.2 hc
        show G Γ m_MO_text (d + 1) (0, 0) Q 130 [.ref r0, .int x1, .int (xI μ1 r0 6)] [] μ2
        refine run_ok (pc' := 132) [(.iload_n 1, 0, 0, 0), (.iconst 2, 0, 0, 0)] _ _ _ _ (by decide +kernel) ?_
        show G Γ m_MO_text (d + 1) (0, 0) Q 132 [.ref r0, .int x1, .int (xI μ1 r0 6)] [.int (w 2), .int x1] μ2
        refine g_icmp_ne (pc' := 205) (off := 73) (by decide) (by decide +kernel) (fun hc => ?_) (fun hc => ?_)
        · replace h := h.2 hc
          show G Γ m_MO_text (d + 1) (0, 0) Q 205 [.ref r0, .int x1, .int (xI μ1 r0 6)] [] μ2
          refine run_ok (pc' := 213) [(.aload_n 0, 0, 0, 0), (.aload_n 0, 0, 0, 0), (.getfield 258, 11, 26, 0), (.putfield 307, 11, 25, 0)] _ _ _ _ (by decide +kernel) ?_
          show _ ∧ (_ ∧ (_))
          refine ⟨(((o_r0_11).mono hn1).mono hm2), (((o_r0_11).mono hn1).mono hm2), ?_⟩
          show G Γ m_MO_text (d + 1) (0, 0) Q 213 [.ref r0, .int x1, .int (xI μ1 r0 6)] [] (sI μ2 r0 25 (xI μ2 r0 26))
          obtain ⟨μ3, em3⟩ : ∃ m : XM, m = sI μ2 r0 25 (xI μ2 r0 26) := ⟨_, rfl⟩
          replace h := h μ3 em3
          have hm3 : xN μ2 ≤ xN μ3 := by rw [em3]; exact Nat.le_refl _
          rw [← em3]
          refine run_ok (pc' := 215) [(.iconst 0, 0, 0, 0), (.istore_n 3, 0, 0, 0)] _ _ _ _ (by decide +kernel) ?_
          show G Γ m_MO_text (d + 1) (0, 0) Q 215 [.ref r0, .int x1, .int (xI μ1 r0 6), .int (w 0)] [] μ3
          exact g_wk (ls' := [.ref r0, jk, jk, .int (w 0)]) ⟨Or.inr rfl, Or.inl rfl, Or.inl rfl, Or.inr rfl, trivial⟩ h
        · replace h := h.1 hc
          show G Γ m_MO_text (d + 1) (0, 0) Q 135 [.ref r0, .int x1, .int (xI μ1 r0 6)] [] μ2
          refine run_ok (pc' := 137) [(.iconst 0, 0, 0, 0), (.istore_n 3, 0, 0, 0)] _ _ _ _ (by decide +kernel) ?_
          show G Γ m_MO_text (d + 1) (0, 0) Q 137 [.ref r0, .int x1, .int (xI μ1 r0 6), .int (w 0)] [] μ2
          exact g_wk (ls' := [.ref r0, jk, jk, .int (w 0)]) ⟨Or.inr rfl, Or.inl rfl, Or.inl rfl, Or.inr rfl, trivial⟩ h
      · replace h := h.1 hc
        show G Γ m_MO_text (d + 1) (0, 0) Q 69 [.ref r0, .int x1, .int (xI μ1 r0 6)] [] μ2
        refine run_ok (pc' := 71) [(.iconst 0, 0, 0, 0), (.istore_n 3, 0, 0, 0)] _ _ _ _ (by decide +kernel) ?_
        show G Γ m_MO_text (d + 1) (0, 0) Q 71 [.ref r0, .int x1, .int (xI μ1 r0 6), .int (w 0)] [] μ2
        exact g_wk (ls' := [.ref r0, jk, .int (xI μ1 r0 6), .int (w 0)]) ⟨Or.inr rfl, Or.inl rfl, Or.inr rfl, Or.inr rfl, trivial⟩ h
    · replace h := h.2 hc
      show G Γ m_MO_text (d + 1) (0, 0) Q 52 [.ref r0, .int x1] [] μ1
      refine run_ok (pc' := 53) [(.iconst (-1), 0, 0, 0)] _ _ _ _ (by decide +kernel) ?_
      show G Γ m_MO_text (d + 1) (0, 0) Q 53 [.ref r0, .int x1] [.int (w (-1))] μ1
      exact g_reti (by decide +kernel) rfl h
  · replace h := h.1 hc
    show G Γ m_MO_text (d + 1) (0, 0) Q 35 [.ref r0, .int x1] [] μ
    refine run_ok (pc' := 40) [(.aload_n 0, 0, 0, 0), (.getfield 302, 11, 28, 0), (.iconst 4, 0, 0, 0)] _ _ _ _ (by decide +kernel) ?_
    show _ ∧ (_)
    refine ⟨o_r0_11, ?_⟩
    show G Γ m_MO_text (d + 1) (0, 0) Q 40 [.ref r0, .int x1] [.int (w 4), .int (xI μ r0 28)] μ
    refine g_icmp_eq (pc' := 52) (off := 12) (by decide) (by decide +kernel) (fun hc => ?_) (fun hc => ?_)
    · replace h := h.1 hc
      show G Γ m_MO_text (d + 1) (0, 0) Q 52 [.ref r0, .int x1] [] μ
      refine run_ok (pc' := 53) [(.iconst (-1), 0, 0, 0)] _ _ _ _ (by decide +kernel) ?_
      show G Γ m_MO_text (d + 1) (0, 0) Q 53 [.ref r0, .int x1] [.int (w (-1))] μ
      exact g_reti (by decide +kernel) rfl h
    · replace h := h.2 hc
      show G Γ m_MO_text (d + 1) (0, 0) Q 43 [.ref r0, .int x1] [] μ
      refine run_ok (pc' := 45) [(.aload_n 0, 0, 0, 0), (.iload_n 1, 0, 0, 0)] _ _ _ _ (by decide +kernel) ?_
      show G Γ m_MO_text (d + 1) (0, 0) Q 45 [.ref r0, .int x1] [.int x1, .ref r0] μ
      refine g_invV (M' := m_MO_fault) (b1 := 0) (b2 := 0) (As := [.int x1]) (a := r0) (st := []) lk_11_305 (by decide +kernel) rfl (dk_MO_fault d) (Nat.le_of_ble_eq_true rfl) (Or.inl ⟨11, o_r0_11, rfl⟩) h ?_
      rintro _ μ4 ⟨v4, rfl, h⟩ hn4
      show G Γ m_MO_text (d + 1) (0, 0) Q 48 [.ref r0, .int x1] [.int v4] μ4
      refine run_ok (pc' := 49) [(.iconst (-1), 0, 0, 0)] _ _ _ _ (by decide +kernel) ?_
      show G Γ m_MO_text (d + 1) (0, 0) Q 49 [.ref r0, .int x1] [.int (w (-1)), .int v4] μ4
      refine g_icmp_eq (pc' := 54) (off := 5) (by decide) (by decide +kernel) (fun hc => ?_) (fun hc => ?_)
      · replace h := h.1 hc
        show G Γ m_MO_text (d + 1) (0, 0) Q 54 [.ref r0, .int x1] [] μ4
        refine run_ok (pc' := 64) [(.aload_n 0, 0, 0, 0), (.getfield 122, 11, 6, 0), (.istore_n 2, 0, 0, 0), (.aload_n 0, 0, 0, 0), (.iconst 0, 0, 0, 0), (.putfield 122, 11, 6, 0)] _ _ _ _ (by decide +kernel) ?_
        show _ ∧ (_ ∧ (_))
        refine ⟨((o_r0_11).mono hn4), ((o_r0_11).mono hn4), ?_⟩
        show G Γ m_MO_text (d + 1) (0, 0) Q 64 [.ref r0, .int x1, .int (xI μ4 r0 6)] [] (sI μ4 r0 6 (w 0))
        obtain ⟨μ5, em5⟩ : ∃ m : XM, m = sI μ4 r0 6 (w 0) := ⟨_, rfl⟩
        replace h := h μ5 em5
        have hm5 : xN μ4 ≤ xN μ5 := by rw [em5]; exact Nat.le_refl _
        rw [← em5]
        refine run_ok (pc' := 66) [(.iload_n 1, 0, 0, 0), (.iconst 1, 0, 0, 0)] _ _ _ _ (by decide +kernel) ?_
        show G Γ m_MO_text (d + 1) (0, 0) Q 66 [.ref r0, .int x1, .int (xI μ4 r0 6)] [.int (w 1), .int x1] μ5
        refine g_icmp_ne (pc' := 130) (off := 64) (by decide) (by decide +kernel) (fun hc => ?_) (fun hc => ?_)
        · replace h := h.2 hc
          show G Γ m_MO_text (d + 1) (0, 0) Q 130 [.ref r0, .int x1, .int (xI μ4 r0 6)] [] μ5
          refine run_ok (pc' := 132) [(.iload_n 1, 0, 0, 0), (.iconst 2, 0, 0, 0)] _ _ _ _ (by decide +kernel) ?_
          show G Γ m_MO_text (d + 1) (0, 0) Q 132 [.ref r0, .int x1, .int (xI μ4 r0 6)] [.int (w 2), .int x1] μ5
          refine g_icmp_ne (pc' := 205) (off := 73) (by decide) (by decide +kernel) (fun hc => ?_) (fun hc => ?_)
          · replace h := h.2 hc
            show G Γ m_MO_text (d + 1) (0, 0) Q 205 [.ref r0, .int x1, .int (xI μ4 r0 6)] [] μ5
            refine run_ok (pc' := 213) [(.aload_n 0, 0, 0, 0), (.aload_n 0, 0, 0, 0), (.getfield 258, 11, 26, 0), (.putfield 307, 11, 25, 0)] _ _ _ _ (by decide +kernel) ?_
            show _ ∧ (_ ∧ (_))
            refine ⟨(((o_r0_11).mono hn4).mono hm5), (((o_r0_11).mono hn4).mono hm5), ?_⟩
            show G Γ m_MO_text (d + 1) (0, 0) Q 213 [.ref r0, .int x1, .int (xI μ4 r0 6)] [] (sI μ5 r0 25 (xI μ5 r0 26))
            obtain ⟨μ6, em6⟩ : ∃ m : XM, m = sI μ5 r0 25 (xI μ5 r0 26) := ⟨_, rfl⟩
            replace h := h μ6 em6
            have hm6 : xN μ5 ≤ xN μ6 := by rw [em6]; exact Nat.le_refl _
            rw [← em6]
            refine run_ok (pc' := 215) [(.iconst 0, 0, 0, 0), (.istore_n 3, 0, 0, 0)] _ _ _ _ (by decide +kernel) ?_
            show G Γ m_MO_text (d + 1) (0, 0) Q 215 [.ref r0, .int x1, .int (xI μ4 r0 6), .int (w 0)] [] μ6
            exact g_wk (ls' := [.ref r0, jk, jk, .int (w 0)]) ⟨Or.inr rfl, Or.inl rfl, Or.inl rfl, Or.inr rfl, trivial⟩ h
          · replace h := h.1 hc
            show G Γ m_MO_text (d + 1) (0, 0) Q 135 [.ref r0, .int x1, .int (xI μ4 r0 6)] [] μ5
            refine run_ok (pc' := 137) [(.iconst 0, 0, 0, 0), (.istore_n 3, 0, 0, 0)] _ _ _ _ (by decide +kernel) ?_
            show G Γ m_MO_text (d + 1) (0, 0) Q 137 [.ref r0, .int x1, .int (xI μ4 r0 6), .int (w 0)] [] μ5
            exact g_wk (ls' := [.ref r0, jk, jk, .int (w 0)]) ⟨Or.inr rfl, Or.inl rfl, Or.inl rfl, Or.inr rfl, trivial⟩ h
        · replace h := h.1 hc
          show G Γ m_MO_text (d + 1) (0, 0) Q 69 [.ref r0, .int x1, .int (xI μ4 r0 6)] [] μ5
          refine run_ok (pc' := 71) [(.iconst 0, 0, 0, 0), (.istore_n 3, 0, 0, 0)] _ _ _ _ (by decide +kernel) ?_
          show G Γ m_MO_text (d + 1) (0, 0) Q 71 [.ref r0, .int x1, .int (xI μ4 r0 6), .int (w 0)] [] μ5
          exact g_wk (ls' := [.ref r0, jk, .int (xI μ4 r0 6), .int (w 0)]) ⟨Or.inr rfl, Or.inl rfl, Or.inr rfl, Or.inr rfl, trivial⟩ h
      · replace h := h.2 hc
        show G Γ m_MO_text (d + 1) (0, 0) Q 52 [.ref r0, .int x1] [] μ4
        refine run_ok (pc' := 53) [(.iconst (-1), 0, 0, 0)] _ _ _ _ (by decide +kernel) ?_
        show G Γ m_MO_text (d + 1) (0, 0) Q 53 [.ref r0, .int x1] [.int (w (-1))] μ4
        exact g_reti (by decide +kernel) rfl h
set_option maxRecDepth 100000 in
theorem B_MO_text_71 {Γ : XG} {d : Nat} {Q : Option Value → XM → Prop} {r0 r0_3 r0_2 r0_1 : Nat} {x2 x3 : Int32} {μ : XM} (o_r0_11 : ob μ r0 11) (e_r0_3 : xR μ r0 3 = some r0_3) (e_r0_2 : xR μ r0 2 = some r0_2) (e_r0_1 : xR μ r0 1 = some r0_1) (h : ((x3 < x2 → inb μ 1 r0_1 x3 ∧ inS μ 1 r0_2 (((w 240) * (xI μ r0 7)) + x3) ∧ ∀ μ6, μ6 = sI μ r0_2 (((w 240) * (xI μ r0 7)) + x3).toNatClampNeg ((xI μ r0_1 x3.toNatClampNeg).toInt8.toInt32) → G Γ m_MO_text (d + 1) (0, 0) Q 71 [.ref r0, jk, .int x2, .int (x3 + w 1)] [] μ6) ∧ (¬ x3 < x2 → inS μ 0 r0_3 (xI μ r0 7) ∧ ∀ μ2, μ2 = sI μ r0_3 (xI μ r0 7).toNatClampNeg x2 → ∀ μ3, μ3 = sI μ2 r0 7 ((xI μ2 r0 7) + (w 1)) → Q (some (.int ((xI μ3 r0 7) - (w 1)))) μ3))) : G Γ m_MO_text (d + 1) (0, 0) Q 71 [.ref r0, jk, .int x2, .int x3] [] μ := by
  refine run_ok (pc' := 73) [(.iload_n 3, 0, 0, 0), (.iload_n 2, 0, 0, 0)] _ _ _ _ (by decide +kernel) ?_
  show G Γ m_MO_text (d + 1) (0, 0) Q 73 [.ref r0, jk, .int x2, .int x3] [.int x2, .int x3] μ
  refine g_icmp_ge (pc' := 103) (off := 30) (by decide) (by decide +kernel) (fun hc => ?_) (fun hc => ?_)
  · replace h := h.2 hc
    show G Γ m_MO_text (d + 1) (0, 0) Q 103 [.ref r0, jk, .int x2, .int x3] [] μ
    obtain ⟨is1, h⟩ := h
    refine run_ok (pc' := 113) [(.aload_n 0, 0, 0, 0), (.getfield 16, 11, 3, 2), (.aload_n 0, 0, 0, 0), (.getfield 299, 11, 7, 0), (.iload_n 2, 0, 0, 0), (.iastore, 0, 0, 0)] _ _ _ _ (by decide +kernel) ?_
    show _ ∧ (∃ _, _ ∧ (_ ∧ (_ ∧ (_))))
    refine ⟨o_r0_11, r0_3, e_r0_3, o_r0_11, is1, ?_⟩
    show G Γ m_MO_text (d + 1) (0, 0) Q 113 [.ref r0, jk, .int x2, .int x3] [] (sI μ r0_3 (xI μ r0 7).toNatClampNeg x2)
    obtain ⟨μ2, em2⟩ : ∃ m : XM, m = sI μ r0_3 (xI μ r0 7).toNatClampNeg x2 := ⟨_, rfl⟩
    replace h := h μ2 em2
    have hm2 : xN μ ≤ xN μ2 := by rw [em2]; exact Nat.le_refl _
    rw [← em2]
    refine run_ok (pc' := 123) [(.aload_n 0, 0, 0, 0), (.dup, 0, 0, 0), (.getfield 299, 11, 7, 0), (.iconst 1, 0, 0, 0), (.iadd, 0, 0, 0), (.putfield 299, 11, 7, 0)] _ _ _ _ (by decide +kernel) ?_
    show _ ∧ (_ ∧ (_))
    refine ⟨((o_r0_11).mono hm2), ((o_r0_11).mono hm2), ?_⟩
    show G Γ m_MO_text (d + 1) (0, 0) Q 123 [.ref r0, jk, .int x2, .int x3] [] (sI μ2 r0 7 ((xI μ2 r0 7) + (w 1)))
    obtain ⟨μ3, em3⟩ : ∃ m : XM, m = sI μ2 r0 7 ((xI μ2 r0 7) + (w 1)) := ⟨_, rfl⟩
    replace h := h μ3 em3
    have hm3 : xN μ2 ≤ xN μ3 := by rw [em3]; exact Nat.le_refl _
    rw [← em3]
    refine run_ok (pc' := 129) [(.aload_n 0, 0, 0, 0), (.getfield 299, 11, 7, 0), (.iconst 1, 0, 0, 0), (.isub, 0, 0, 0)] _ _ _ _ (by decide +kernel) ?_
    show _ ∧ (_)
    refine ⟨(((o_r0_11).mono hm2).mono hm3), ?_⟩
    show G Γ m_MO_text (d + 1) (0, 0) Q 129 [.ref r0, jk, .int x2, .int x3] [.int ((xI μ3 r0 7) - (w 1))] μ3
    exact g_reti (by decide +kernel) rfl h
  · replace h := h.1 hc
    show G Γ m_MO_text (d + 1) (0, 0) Q 76 [.ref r0, jk, .int x2, .int x3] [] μ
    obtain ⟨ib4, h⟩ := h
    obtain ⟨is5, h⟩ := h
    refine run_ok (pc' := 97) [(.aload_n 0, 0, 0, 0), (.getfield 13, 11, 2, 2), (.sipush 240, 0, 0, 0), (.aload_n 0, 0, 0, 0), (.getfield 299, 11, 7, 0), (.imul, 0, 0, 0), (.iload_n 3, 0, 0, 0), (.iadd, 0, 0, 0), (.aload_n 0, 0, 0, 0), (.getfield 9, 11, 1, 2), (.iload_n 3, 0, 0, 0), (.baload, 1, 0, 0), (.bastore, 1, 0, 0)] _ _ _ _ (by decide +kernel) ?_
    show _ ∧ (∃ _, _ ∧ (_ ∧ (_ ∧ (∃ _, _ ∧ (_ ∧ (_ ∧ (_ ∧ (_))))))))
    refine ⟨o_r0_11, r0_2, e_r0_2, o_r0_11, o_r0_11, r0_1, e_r0_1, ib4, Or.inl rfl, is5, ?_⟩
    show G Γ m_MO_text (d + 1) (0, 0) Q 97 [.ref r0, jk, .int x2, .int x3] [] (sI μ r0_2 (((w 240) * (xI μ r0 7)) + x3).toNatClampNeg ((xI μ r0_1 x3.toNatClampNeg).toInt8.toInt32))
    obtain ⟨μ6, em6⟩ : ∃ m : XM, m = sI μ r0_2 (((w 240) * (xI μ r0 7)) + x3).toNatClampNeg ((xI μ r0_1 x3.toNatClampNeg).toInt8.toInt32) := ⟨_, rfl⟩
    replace h := h μ6 em6
    have hm6 : xN μ ≤ xN μ6 := by rw [em6]; exact Nat.le_refl _
    rw [← em6]
    refine run_ok (pc' := 71) [(.iinc 3 1, 0, 0, 0), (.goto (-29), 0, 0, 0)] _ _ _ _ (by decide +kernel) ?_
    show G Γ m_MO_text (d + 1) (0, 0) Q 71 [.ref r0, jk, .int x2, .int (x3 + w 1)] [] μ6
    exact h
set_option maxRecDepth 100000 in
theorem B_MO_text_137 {Γ : XG} {d : Nat} {Q : Option Value → XM → Prop} {r0 r0_24 r0_23 : Nat} {x3 : Int32} {μ : XM} (o_r0_11 : ob μ r0 11) (e_r0_24 : xR μ r0 24 = some r0_24) (e_r0_23 : xR μ r0 23 = some r0_23) (h : ((x3 < w 64 → inb μ 0 r0_23 ((w 256) + x3) ∧ inS μ 0 r0_23 (((w 64) * (xI μ r0 28)) + x3) ∧ ∀ μ7, μ7 = sI μ r0_23 (((w 64) * (xI μ r0 28)) + x3).toNatClampNeg (xI μ r0_23 ((w 256) + x3).toNatClampNeg) → G Γ m_MO_text (d + 1) (0, 0) Q 137 [.ref r0, jk, jk, .int (x3 + w 1)] [] μ7) ∧ (¬ x3 < w 64 → inb μ 0 r0_24 (w 4) ∧ inS μ 0 r0_24 (xI μ r0 28) ∧ ∀ μ3, μ3 = sI μ r0_24 (xI μ r0 28).toNatClampNeg (xI μ r0_24 (w 4).toNatClampNeg) → ∀ μ4, μ4 = sI μ3 r0 28 ((xI μ3 r0 28) + (w 1)) → Q (some (.int ((xI μ4 r0 28) - (w 1)))) μ4))) : G Γ m_MO_text (d + 1) (0, 0) Q 137 [.ref r0, jk, jk, .int x3] [] μ := by
  refine run_ok (pc' := 140) [(.iload_n 3, 0, 0, 0), (.bipush 64, 0, 0, 0)] _ _ _ _ (by decide +kernel) ?_
  show G Γ m_MO_text (d + 1) (0, 0) Q 140 [.ref r0, jk, jk, .int x3] [.int (w 64), .int x3] μ
  refine g_icmp_ge (pc' := 173) (off := 33) (by decide) (by decide +kernel) (fun hc => ?_) (fun hc => ?_)
  · replace h := h.2 hc
    show G Γ m_MO_text (d + 1) (0, 0) Q 173 [.ref r0, jk, jk, .int x3] [] μ
    obtain ⟨ib1, h⟩ := h
    obtain ⟨is2, h⟩ := h
    refine run_ok (pc' := 188) [(.aload_n 0, 0, 0, 0), (.getfield 55, 11, 24, 2), (.aload_n 0, 0, 0, 0), (.getfield 302, 11, 28, 0), (.aload_n 0, 0, 0, 0), (.getfield 55, 11, 24, 2), (.iconst 4, 0, 0, 0), (.iaload, 0, 0, 0), (.iastore, 0, 0, 0)] _ _ _ _ (by decide +kernel) ?_
    show _ ∧ (∃ _, _ ∧ (_ ∧ (_ ∧ (∃ _, _ ∧ (_ ∧ (_ ∧ (_)))))))
    refine ⟨o_r0_11, r0_24, e_r0_24, o_r0_11, o_r0_11, r0_24, e_r0_24, ib1, is2, ?_⟩
    show G Γ m_MO_text (d + 1) (0, 0) Q 188 [.ref r0, jk, jk, .int x3] [] (sI μ r0_24 (xI μ r0 28).toNatClampNeg (xI μ r0_24 (w 4).toNatClampNeg))
    obtain ⟨μ3, em3⟩ : ∃ m : XM, m = sI μ r0_24 (xI μ r0 28).toNatClampNeg (xI μ r0_24 (w 4).toNatClampNeg) := ⟨_, rfl⟩
    replace h := h μ3 em3
    have hm3 : xN μ ≤ xN μ3 := by rw [em3]; exact Nat.le_refl _
    rw [← em3]
    refine run_ok (pc' := 198) [(.aload_n 0, 0, 0, 0), (.dup, 0, 0, 0), (.getfield 302, 11, 28, 0), (.iconst 1, 0, 0, 0), (.iadd, 0, 0, 0), (.putfield 302, 11, 28, 0)] _ _ _ _ (by decide +kernel) ?_
    show _ ∧ (_ ∧ (_))
    refine ⟨((o_r0_11).mono hm3), ((o_r0_11).mono hm3), ?_⟩
    show G Γ m_MO_text (d + 1) (0, 0) Q 198 [.ref r0, jk, jk, .int x3] [] (sI μ3 r0 28 ((xI μ3 r0 28) + (w 1)))
    obtain ⟨μ4, em4⟩ : ∃ m : XM, m = sI μ3 r0 28 ((xI μ3 r0 28) + (w 1)) := ⟨_, rfl⟩
    replace h := h μ4 em4
    have hm4 : xN μ3 ≤ xN μ4 := by rw [em4]; exact Nat.le_refl _
    rw [← em4]
    refine run_ok (pc' := 204) [(.aload_n 0, 0, 0, 0), (.getfield 302, 11, 28, 0), (.iconst 1, 0, 0, 0), (.isub, 0, 0, 0)] _ _ _ _ (by decide +kernel) ?_
    show _ ∧ (_)
    refine ⟨(((o_r0_11).mono hm3).mono hm4), ?_⟩
    show G Γ m_MO_text (d + 1) (0, 0) Q 204 [.ref r0, jk, jk, .int x3] [.int ((xI μ4 r0 28) - (w 1))] μ4
    exact g_reti (by decide +kernel) rfl h
  · replace h := h.1 hc
    show G Γ m_MO_text (d + 1) (0, 0) Q 143 [.ref r0, jk, jk, .int x3] [] μ
    obtain ⟨ib5, h⟩ := h
    obtain ⟨is6, h⟩ := h
    refine run_ok (pc' := 167) [(.aload_n 0, 0, 0, 0), (.getfield 52, 11, 23, 2), (.bipush 64, 0, 0, 0), (.aload_n 0, 0, 0, 0), (.getfield 302, 11, 28, 0), (.imul, 0, 0, 0), (.iload_n 3, 0, 0, 0), (.iadd, 0, 0, 0), (.aload_n 0, 0, 0, 0), (.getfield 52, 11, 23, 2), (.sipush 256, 0, 0, 0), (.iload_n 3, 0, 0, 0), (.iadd, 0, 0, 0), (.iaload, 0, 0, 0), (.iastore, 0, 0, 0)] _ _ _ _ (by decide +kernel) ?_
    show _ ∧ (∃ _, _ ∧ (_ ∧ (_ ∧ (∃ _, _ ∧ (_ ∧ (_ ∧ (_)))))))
    refine ⟨o_r0_11, r0_23, e_r0_23, o_r0_11, o_r0_11, r0_23, e_r0_23, ib5, is6, ?_⟩
    show G Γ m_MO_text (d + 1) (0, 0) Q 167 [.ref r0, jk, jk, .int x3] [] (sI μ r0_23 (((w 64) * (xI μ r0 28)) + x3).toNatClampNeg (xI μ r0_23 ((w 256) + x3).toNatClampNeg))
    obtain ⟨μ7, em7⟩ : ∃ m : XM, m = sI μ r0_23 (((w 64) * (xI μ r0 28)) + x3).toNatClampNeg (xI μ r0_23 ((w 256) + x3).toNatClampNeg) := ⟨_, rfl⟩
    replace h := h μ7 em7
    have hm7 : xN μ ≤ xN μ7 := by rw [em7]; exact Nat.le_refl _
    rw [← em7]
    refine run_ok (pc' := 137) [(.iinc 3 1, 0, 0, 0), (.goto (-33), 0, 0, 0)] _ _ _ _ (by decide +kernel) ?_
    show G Γ m_MO_text (d + 1) (0, 0) Q 137 [.ref r0, jk, jk, .int (x3 + w 1)] [] μ7
    exact h
set_option maxRecDepth 100000 in
theorem B_MO_text_215 {Γ : XG} {d : Nat} {Q : Option Value → XM → Prop} {r0 r0_18 r0_19 : Nat} {x3 : Int32} {μ : XM} (o_r0_11 : ob μ r0 11) (e_r0_18 : xR μ r0 18 = some r0_18) (e_r0_19 : xR μ r0 19 = some r0_19) (h : ((x3 < w 4 → inb μ 0 r0_19 x3 ∧ inS μ 0 r0_18 x3 ∧ ∀ μ3, μ3 = sI μ r0_18 x3.toNatClampNeg (xI μ r0_19 x3.toNatClampNeg) → G Γ m_MO_text (d + 1) (0, 0) Q 215 [.ref r0, jk, jk, .int (x3 + w 1)] [] μ3) ∧ (¬ x3 < w 4 → G Γ m_MO_text (d + 1) (0, 0) Q 240 [.ref r0, jk, jk, .int (w 0)] [] μ))) : G Γ m_MO_text (d + 1) (0, 0) Q 215 [.ref r0, jk, jk, .int x3] [] μ := by
  refine run_ok (pc' := 217) [(.iload_n 3, 0, 0, 0), (.iconst 4, 0, 0, 0)] _ _ _ _ (by decide +kernel) ?_
  show G Γ m_MO_text (d + 1) (0, 0) Q 217 [.ref r0, jk, jk, .int x3] [.int (w 4), .int x3] μ
  refine g_icmp_ge (pc' := 238) (off := 21) (by decide) (by decide +kernel) (fun hc => ?_) (fun hc => ?_)
  · replace h := h.2 hc
    show G Γ m_MO_text (d + 1) (0, 0) Q 238 [.ref r0, jk, jk, .int x3] [] μ
    refine run_ok (pc' := 240) [(.iconst 0, 0, 0, 0), (.istore_n 3, 0, 0, 0)] _ _ _ _ (by decide +kernel) ?_
    show G Γ m_MO_text (d + 1) (0, 0) Q 240 [.ref r0, jk, jk, .int (w 0)] [] μ
    exact h
  · replace h := h.1 hc
    show G Γ m_MO_text (d + 1) (0, 0) Q 220 [.ref r0, jk, jk, .int x3] [] μ
    obtain ⟨ib1, h⟩ := h
    obtain ⟨is2, h⟩ := h
    refine run_ok (pc' := 232) [(.aload_n 0, 0, 0, 0), (.getfield 37, 11, 18, 2), (.iload_n 3, 0, 0, 0), (.aload_n 0, 0, 0, 0), (.getfield 40, 11, 19, 2), (.iload_n 3, 0, 0, 0), (.iaload, 0, 0, 0), (.iastore, 0, 0, 0)] _ _ _ _ (by decide +kernel) ?_
    show _ ∧ (∃ _, _ ∧ (_ ∧ (∃ _, _ ∧ (_ ∧ (_ ∧ (_))))))
    refine ⟨o_r0_11, r0_18, e_r0_18, o_r0_11, r0_19, e_r0_19, ib1, is2, ?_⟩
    show G Γ m_MO_text (d + 1) (0, 0) Q 232 [.ref r0, jk, jk, .int x3] [] (sI μ r0_18 x3.toNatClampNeg (xI μ r0_19 x3.toNatClampNeg))
    obtain ⟨μ3, em3⟩ : ∃ m : XM, m = sI μ r0_18 x3.toNatClampNeg (xI μ r0_19 x3.toNatClampNeg) := ⟨_, rfl⟩
    replace h := h μ3 em3
    have hm3 : xN μ ≤ xN μ3 := by rw [em3]; exact Nat.le_refl _
    rw [← em3]
    refine run_ok (pc' := 215) [(.iinc 3 1, 0, 0, 0), (.goto (-20), 0, 0, 0)] _ _ _ _ (by decide +kernel) ?_
    show G Γ m_MO_text (d + 1) (0, 0) Q 215 [.ref r0, jk, jk, .int (x3 + w 1)] [] μ3
    exact h
set_option maxRecDepth 100000 in
theorem B_MO_text_240 {Γ : XG} {d : Nat} {Q : Option Value → XM → Prop} {r0 r0_20 r0_21 : Nat} {x3 : Int32} {μ : XM} (o_r0_11 : ob μ r0 11) (e_r0_20 : xR μ r0 20 = some r0_20) (e_r0_21 : xR μ r0 21 = some r0_21) (h : ((x3 < w 30 → inb μ 0 r0_21 x3 ∧ inS μ 0 r0_20 x3 ∧ ∀ μ3, μ3 = sI μ r0_20 x3.toNatClampNeg (xI μ r0_21 x3.toNatClampNeg) → G Γ m_MO_text (d + 1) (0, 0) Q 240 [.ref r0, jk, jk, .int (x3 + w 1)] [] μ3) ∧ (¬ x3 < w 30 → G Γ m_MO_text (d + 1) (0, 0) Q 266 [.ref r0, jk, jk, .int (w 0)] [] μ))) : G Γ m_MO_text (d + 1) (0, 0) Q 240 [.ref r0, jk, jk, .int x3] [] μ := by
  refine run_ok (pc' := 243) [(.iload_n 3, 0, 0, 0), (.bipush 30, 0, 0, 0)] _ _ _ _ (by decide +kernel) ?_
  show G Γ m_MO_text (d + 1) (0, 0) Q 243 [.ref r0, jk, jk, .int x3] [.int (w 30), .int x3] μ
  refine g_icmp_ge (pc' := 264) (off := 21) (by decide) (by decide +kernel) (fun hc => ?_) (fun hc => ?_)
  · replace h := h.2 hc
    show G Γ m_MO_text (d + 1) (0, 0) Q 264 [.ref r0, jk, jk, .int x3] [] μ
    refine run_ok (pc' := 266) [(.iconst 0, 0, 0, 0), (.istore_n 3, 0, 0, 0)] _ _ _ _ (by decide +kernel) ?_
    show G Γ m_MO_text (d + 1) (0, 0) Q 266 [.ref r0, jk, jk, .int (w 0)] [] μ
    exact h
  · replace h := h.1 hc
    show G Γ m_MO_text (d + 1) (0, 0) Q 246 [.ref r0, jk, jk, .int x3] [] μ
    obtain ⟨ib1, h⟩ := h
    obtain ⟨is2, h⟩ := h
    refine run_ok (pc' := 258) [(.aload_n 0, 0, 0, 0), (.getfield 43, 11, 20, 2), (.iload_n 3, 0, 0, 0), (.aload_n 0, 0, 0, 0), (.getfield 46, 11, 21, 2), (.iload_n 3, 0, 0, 0), (.iaload, 0, 0, 0), (.iastore, 0, 0, 0)] _ _ _ _ (by decide +kernel) ?_
    show _ ∧ (∃ _, _ ∧ (_ ∧ (∃ _, _ ∧ (_ ∧ (_ ∧ (_))))))
    refine ⟨o_r0_11, r0_20, e_r0_20, o_r0_11, r0_21, e_r0_21, ib1, is2, ?_⟩
    show G Γ m_MO_text (d + 1) (0, 0) Q 258 [.ref r0, jk, jk, .int x3] [] (sI μ r0_20 x3.toNatClampNeg (xI μ r0_21 x3.toNatClampNeg))
    obtain ⟨μ3, em3⟩ : ∃ m : XM, m = sI μ r0_20 x3.toNatClampNeg (xI μ r0_21 x3.toNatClampNeg) := ⟨_, rfl⟩
    replace h := h μ3 em3
    have hm3 : xN μ ≤ xN μ3 := by rw [em3]; exact Nat.le_refl _
    rw [← em3]
    refine run_ok (pc' := 240) [(.iinc 3 1, 0, 0, 0), (.goto (-21), 0, 0, 0)] _ _ _ _ (by decide +kernel) ?_
    show G Γ m_MO_text (d + 1) (0, 0) Q 240 [.ref r0, jk, jk, .int (x3 + w 1)] [] μ3
    exact h
set_option maxRecDepth 100000 in
theorem B_MO_text_266 {Γ : XG} {d : Nat} {Q : Option Value → XM → Prop} {r0 r0_30 : Nat} {x3 : Int32} {μ : XM} (o_r0_11 : ob μ r0 11) (e_r0_30 : xR μ r0 30 = some r0_30) (h : ((x3 < w 283 → inS μ 0 r0_30 x3 ∧ ∀ μ4, μ4 = sI μ r0_30 x3.toNatClampNeg (w 0) → G Γ m_MO_text (d + 1) (0, 0) Q 266 [.ref r0, jk, jk, .int (x3 + w 1)] [] μ4) ∧ (¬ x3 < w 283 → inS μ 0 r0_30 (w 40) ∧ ∀ μ2, μ2 = sI μ r0_30 (w 40).toNatClampNeg (xI μ r0 27) → G Γ m_MO_text (d + 1) (0, 0) Q 299 [.ref r0, jk, jk, .int (w 0)] [] μ2))) : G Γ m_MO_text (d + 1) (0, 0) Q 266 [.ref r0, jk, jk, .int x3] [] μ := by
  refine run_ok (pc' := 270) [(.iload_n 3, 0, 0, 0), (.sipush 283, 0, 0, 0)] _ _ _ _ (by decide +kernel) ?_
  show G Γ m_MO_text (d + 1) (0, 0) Q 270 [.ref r0, jk, jk, .int x3] [.int (w 283), .int x3] μ
  refine g_icmp_ge (pc' := 286) (off := 16) (by decide) (by decide +kernel) (fun hc => ?_) (fun hc => ?_)
  · replace h := h.2 hc
    show G Γ m_MO_text (d + 1) (0, 0) Q 286 [.ref r0, jk, jk, .int x3] [] μ
    obtain ⟨is1, h⟩ := h
    refine run_ok (pc' := 297) [(.aload_n 0, 0, 0, 0), (.getfield 58, 11, 30, 2), (.bipush 40, 0, 0, 0), (.aload_n 0, 0, 0, 0), (.getfield 261, 11, 27, 0), (.iastore, 0, 0, 0)] _ _ _ _ (by decide +kernel) ?_
    show _ ∧ (∃ _, _ ∧ (_ ∧ (_ ∧ (_))))
    refine ⟨o_r0_11, r0_30, e_r0_30, o_r0_11, is1, ?_⟩
    show G Γ m_MO_text (d + 1) (0, 0) Q 297 [.ref r0, jk, jk, .int x3] [] (sI μ r0_30 (w 40).toNatClampNeg (xI μ r0 27))
    obtain ⟨μ2, em2⟩ : ∃ m : XM, m = sI μ r0_30 (w 40).toNatClampNeg (xI μ r0 27) := ⟨_, rfl⟩
    replace h := h μ2 em2
    have hm2 : xN μ ≤ xN μ2 := by rw [em2]; exact Nat.le_refl _
    rw [← em2]
    refine run_ok (pc' := 299) [(.iconst 0, 0, 0, 0), (.istore_n 3, 0, 0, 0)] _ _ _ _ (by decide +kernel) ?_
    show G Γ m_MO_text (d + 1) (0, 0) Q 299 [.ref r0, jk, jk, .int (w 0)] [] μ2
    exact h
  · replace h := h.1 hc
    show G Γ m_MO_text (d + 1) (0, 0) Q 273 [.ref r0, jk, jk, .int x3] [] μ
    obtain ⟨is3, h⟩ := h
    refine run_ok (pc' := 280) [(.aload_n 0, 0, 0, 0), (.getfield 58, 11, 30, 2), (.iload_n 3, 0, 0, 0), (.iconst 0, 0, 0, 0), (.iastore, 0, 0, 0)] _ _ _ _ (by decide +kernel) ?_
    show _ ∧ (∃ _, _ ∧ (_ ∧ (_)))
    refine ⟨o_r0_11, r0_30, e_r0_30, is3, ?_⟩
    show G Γ m_MO_text (d + 1) (0, 0) Q 280 [.ref r0, jk, jk, .int x3] [] (sI μ r0_30 x3.toNatClampNeg (w 0))
    obtain ⟨μ4, em4⟩ : ∃ m : XM, m = sI μ r0_30 x3.toNatClampNeg (w 0) := ⟨_, rfl⟩
    replace h := h μ4 em4
    have hm4 : xN μ ≤ xN μ4 := by rw [em4]; exact Nat.le_refl _
    rw [← em4]
    refine run_ok (pc' := 266) [(.iinc 3 1, 0, 0, 0), (.goto (-17), 0, 0, 0)] _ _ _ _ (by decide +kernel) ?_
    show G Γ m_MO_text (d + 1) (0, 0) Q 266 [.ref r0, jk, jk, .int (x3 + w 1)] [] μ4
    exact h
set_option maxRecDepth 100000 in
theorem B_MO_text_299 {Γ : XG} {d : Nat} {Q : Option Value → XM → Prop} {r0 : Nat} {x3 : Int32} {μ : XM} (o_r0_11 : ob μ r0 11) (h : ((x3 < xI μ r0 27 → G Γ m_MO_text (d + 1) (0, 0) Q 310 [.ref r0, jk, jk, .int x3, .int (w 0)] [] μ) ∧ (¬ x3 < xI μ r0 27 → ∀ μ1, μ1 = sI μ r0 43 (w 0) → ∀ μ2, μ2 = sI μ1 r0 50 (w 0) → ∀ μ3, μ3 = sI μ2 r0 37 (w 0) → ∀ μ4, μ4 = sI μ3 r0 55 (w 0) → Q (some (.int (xI μ4 r0 25))) μ4))) : G Γ m_MO_text (d + 1) (0, 0) Q 299 [.ref r0, jk, jk, .int x3] [] μ := by
  refine run_ok (pc' := 304) [(.iload_n 3, 0, 0, 0), (.aload_n 0, 0, 0, 0), (.getfield 261, 11, 27, 0)] _ _ _ _ (by decide +kernel) ?_
  show _ ∧ (_)
  refine ⟨o_r0_11, ?_⟩
  show G Γ m_MO_text (d + 1) (0, 0) Q 304 [.ref r0, jk, jk, .int x3] [.int (xI μ r0 27), .int x3] μ
  refine g_icmp_ge (pc' := 357) (off := 53) (by decide) (by decide +kernel) (fun hc => ?_) (fun hc => ?_)
  · replace h := h.2 hc
    show G Γ m_MO_text (d + 1) (0, 0) Q 357 [.ref r0, jk, jk, .int x3] [] μ
    refine run_ok (pc' := 362) [(.aload_n 0, 0, 0, 0), (.iconst 0, 0, 0, 0), (.putfield 310, 11, 43, 0)] _ _ _ _ (by decide +kernel) ?_
    show _ ∧ (_)
    refine ⟨o_r0_11, ?_⟩
    show G Γ m_MO_text (d + 1) (0, 0) Q 362 [.ref r0, jk, jk, .int x3] [] (sI μ r0 43 (w 0))
    obtain ⟨μ1, em1⟩ : ∃ m : XM, m = sI μ r0 43 (w 0) := ⟨_, rfl⟩
    replace h := h μ1 em1
    have hm1 : xN μ ≤ xN μ1 := by rw [em1]; exact Nat.le_refl _
    rw [← em1]
    refine run_ok (pc' := 367) [(.aload_n 0, 0, 0, 0), (.iconst 0, 0, 0, 0), (.putfield 313, 11, 50, 0)] _ _ _ _ (by decide +kernel) ?_
    show _ ∧ (_)
    refine ⟨((o_r0_11).mono hm1), ?_⟩
    show G Γ m_MO_text (d + 1) (0, 0) Q 367 [.ref r0, jk, jk, .int x3] [] (sI μ1 r0 50 (w 0))
    obtain ⟨μ2, em2⟩ : ∃ m : XM, m = sI μ1 r0 50 (w 0) := ⟨_, rfl⟩
    replace h := h μ2 em2
    have hm2 : xN μ1 ≤ xN μ2 := by rw [em2]; exact Nat.le_refl _
    rw [← em2]
    refine run_ok (pc' := 372) [(.aload_n 0, 0, 0, 0), (.iconst 0, 0, 0, 0), (.putfield 316, 11, 37, 0)] _ _ _ _ (by decide +kernel) ?_
    show _ ∧ (_)
    refine ⟨(((o_r0_11).mono hm1).mono hm2), ?_⟩
    show G Γ m_MO_text (d + 1) (0, 0) Q 372 [.ref r0, jk, jk, .int x3] [] (sI μ2 r0 37 (w 0))
    obtain ⟨μ3, em3⟩ : ∃ m : XM, m = sI μ2 r0 37 (w 0) := ⟨_, rfl⟩
    replace h := h μ3 em3
    have hm3 : xN μ2 ≤ xN μ3 := by rw [em3]; exact Nat.le_refl _
    rw [← em3]
    refine run_ok (pc' := 377) [(.aload_n 0, 0, 0, 0), (.iconst 0, 0, 0, 0), (.putfield 319, 11, 55, 3)] _ _ _ _ (by decide +kernel) ?_
    show _ ∧ (_ ∧ (_))
    refine ⟨((((o_r0_11).mono hm1).mono hm2).mono hm3), Or.inl rfl, ?_⟩
    show G Γ m_MO_text (d + 1) (0, 0) Q 377 [.ref r0, jk, jk, .int x3] [] (sI μ3 r0 55 (w 0))
    obtain ⟨μ4, em4⟩ : ∃ m : XM, m = sI μ3 r0 55 (w 0) := ⟨_, rfl⟩
    replace h := h μ4 em4
    have hm4 : xN μ3 ≤ xN μ4 := by rw [em4]; exact Nat.le_refl _
    rw [← em4]
    refine run_ok (pc' := 381) [(.aload_n 0, 0, 0, 0), (.getfield 307, 11, 25, 0)] _ _ _ _ (by decide +kernel) ?_
    show _ ∧ (_)
    refine ⟨(((((o_r0_11).mono hm1).mono hm2).mono hm3).mono hm4), ?_⟩
    show G Γ m_MO_text (d + 1) (0, 0) Q 381 [.ref r0, jk, jk, .int x3] [.int (xI μ4 r0 25)] μ4
    exact g_reti (by decide +kernel) rfl h
  · replace h := h.1 hc
    show G Γ m_MO_text (d + 1) (0, 0) Q 307 [.ref r0, jk, jk, .int x3] [] μ
    refine run_ok (pc' := 310) [(.iconst 0, 0, 0, 0), (.istore 4, 0, 0, 0)] _ _ _ _ (by decide +kernel) ?_
    show G Γ m_MO_text (d + 1) (0, 0) Q 310 [.ref r0, jk, jk, .int x3, .int (w 0)] [] μ
    exact h
set_option maxRecDepth 100000 in
theorem B_MO_text_310 {Γ : XG} {d : Nat} {Q : Option Value → XM → Prop} {r0 r0_30 r0_22 : Nat} {x3 x4 : Int32} {μ : XM} (o_r0_11 : ob μ r0 11) (e_r0_30 : xR μ r0 30 = some r0_30) (e_r0_22 : xR μ r0 22 = some r0_22) (h : ((x4 < w 4 → inb μ 0 r0_22 (((w 4) * x3) + x4) ∧ inS μ 0 r0_30 (((w 5) * (((xI μ r0 27) - (w 1)) - x3)) + x4) ∧ ∀ μ3, μ3 = sI μ r0_30 (((w 5) * (((xI μ r0 27) - (w 1)) - x3)) + x4).toNatClampNeg (xI μ r0_22 (((w 4) * x3) + x4).toNatClampNeg) → G Γ m_MO_text (d + 1) (0, 0) Q 310 [.ref r0, jk, jk, .int x3, .int (x4 + w 1)] [] μ3) ∧ (¬ x4 < w 4 → G Γ m_MO_text (d + 1) (0, 0) Q 299 [.ref r0, jk, jk, .int (x3 + w 1)] [] μ))) : G Γ m_MO_text (d + 1) (0, 0) Q 310 [.ref r0, jk, jk, .int x3, .int x4] [] μ := by
  refine run_ok (pc' := 313) [(.iload 4, 0, 0, 0), (.iconst 4, 0, 0, 0)] _ _ _ _ (by decide +kernel) ?_
  show G Γ m_MO_text (d + 1) (0, 0) Q 313 [.ref r0, jk, jk, .int x3, .int x4] [.int (w 4), .int x4] μ
  refine g_icmp_ge (pc' := 351) (off := 38) (by decide) (by decide +kernel) (fun hc => ?_) (fun hc => ?_)
  · replace h := h.2 hc
    show G Γ m_MO_text (d + 1) (0, 0) Q 351 [.ref r0, jk, jk, .int x3, .int x4] [] μ
    refine run_ok (pc' := 299) [(.iinc 3 1, 0, 0, 0), (.goto (-55), 0, 0, 0)] _ _ _ _ (by decide +kernel) ?_
    show G Γ m_MO_text (d + 1) (0, 0) Q 299 [.ref r0, jk, jk, .int (x3 + w 1), .int x4] [] μ
    exact g_wk (ls' := [.ref r0, jk, jk, .int (x3 + w 1)]) ⟨Or.inr rfl, Or.inl rfl, Or.inl rfl, Or.inr rfl, trivial⟩ h
  · replace h := h.1 hc
    show G Γ m_MO_text (d + 1) (0, 0) Q 316 [.ref r0, jk, jk, .int x3, .int x4] [] μ
    obtain ⟨ib1, h⟩ := h
    obtain ⟨is2, h⟩ := h
    refine run_ok (pc' := 345) [(.aload_n 0, 0, 0, 0), (.getfield 58, 11, 30, 2), (.iconst 5, 0, 0, 0), (.aload_n 0, 0, 0, 0), (.getfield 261, 11, 27, 0), (.iconst 1, 0, 0, 0), (.isub, 0, 0, 0), (.iload_n 3, 0, 0, 0), (.isub, 0, 0, 0), (.imul, 0, 0, 0), (.iload 4, 0, 0, 0), (.iadd, 0, 0, 0), (.aload_n 0, 0, 0, 0), (.getfield 49, 11, 22, 2), (.iconst 4, 0, 0, 0), (.iload_n 3, 0, 0, 0), (.imul, 0, 0, 0), (.iload 4, 0, 0, 0), (.iadd, 0, 0, 0), (.iaload, 0, 0, 0), (.iastore, 0, 0, 0)] _ _ _ _ (by decide +kernel) ?_
    show _ ∧ (∃ _, _ ∧ (_ ∧ (_ ∧ (∃ _, _ ∧ (_ ∧ (_ ∧ (_)))))))
    refine ⟨o_r0_11, r0_30, e_r0_30, o_r0_11, o_r0_11, r0_22, e_r0_22, ib1, is2, ?_⟩
    show G Γ m_MO_text (d + 1) (0, 0) Q 345 [.ref r0, jk, jk, .int x3, .int x4] [] (sI μ r0_30 (((w 5) * (((xI μ r0 27) - (w 1)) - x3)) + x4).toNatClampNeg (xI μ r0_22 (((w 4) * x3) + x4).toNatClampNeg))
    obtain ⟨μ3, em3⟩ : ∃ m : XM, m = sI μ r0_30 (((w 5) * (((xI μ r0 27) - (w 1)) - x3)) + x4).toNatClampNeg (xI μ r0_22 (((w 4) * x3) + x4).toNatClampNeg) := ⟨_, rfl⟩
    replace h := h μ3 em3
    have hm3 : xN μ ≤ xN μ3 := by rw [em3]; exact Nat.le_refl _
    rw [← em3]
    refine run_ok (pc' := 310) [(.iinc 4 1, 0, 0, 0), (.goto (-38), 0, 0, 0)] _ _ _ _ (by decide +kernel) ?_
    show G Γ m_MO_text (d + 1) (0, 0) Q 310 [.ref r0, jk, jk, .int x3, .int (x4 + w 1)] [] μ3
    exact h
/-! FrostBoxModel copy([I[I)V -/
set_option maxRecDepth 100000 in
theorem B_MO_copy_0 {Γ : XG} {d : Nat} {Q : Option Value → XM → Prop} {r0 r1 : Nat} {μ : XM}  (h : inb μ 0 r0 (w 42) ∧ G Γ m_MO_copy (d + 1) (0, 0) Q 12 [.ref r0, .ref r1, .int ((w 43) + ((w 4) * (xI μ r0 (w 42).toNatClampNeg))), .int (w 0)] [] μ) : G Γ m_MO_copy (d + 1) (0, 0) Q 0 [.ref r0, .ref r1] [] μ := by
  obtain ⟨ib1, h⟩ := h
  refine run_ok (pc' := 12) [(.bipush 43, 0, 0, 0), (.iconst 4, 0, 0, 0), (.aload_n 0, 0, 0, 0), (.bipush 42, 0, 0, 0), (.iaload, 0, 0, 0), (.imul, 0, 0, 0), (.iadd, 0, 0, 0), (.istore_n 2, 0, 0, 0), (.iconst 0, 0, 0, 0), (.istore_n 3, 0, 0, 0)] _ _ _ _ (by decide +kernel) ?_
  show _ ∧ (_)
  refine ⟨ib1, ?_⟩
  show G Γ m_MO_copy (d + 1) (0, 0) Q 12 [.ref r0, .ref r1, .int ((w 43) + ((w 4) * (xI μ r0 (w 42).toNatClampNeg))), .int (w 0)] [] μ
  exact h
set_option maxRecDepth 100000 in
theorem B_MO_copy_12 {Γ : XG} {d : Nat} {Q : Option Value → XM → Prop} {r0 r1 : Nat} {x2 x3 : Int32} {μ : XM}  (h : ((x3 < x2 → inb μ 0 r0 x3 ∧ inS μ 0 r1 x3 ∧ ∀ μ3, μ3 = sI μ r1 x3.toNatClampNeg (xI μ r0 x3.toNatClampNeg) → G Γ m_MO_copy (d + 1) (0, 0) Q 12 [.ref r0, .ref r1, .int x2, .int (x3 + w 1)] [] μ3) ∧ (¬ x3 < x2 → Q none μ))) : G Γ m_MO_copy (d + 1) (0, 0) Q 12 [.ref r0, .ref r1, .int x2, .int x3] [] μ := by
  refine run_ok (pc' := 14) [(.iload_n 3, 0, 0, 0), (.iload_n 2, 0, 0, 0)] _ _ _ _ (by decide +kernel) ?_
  show G Γ m_MO_copy (d + 1) (0, 0) Q 14 [.ref r0, .ref r1, .int x2, .int x3] [.int x2, .int x3] μ
  refine g_icmp_ge (pc' := 29) (off := 15) (by decide) (by decide +kernel) (fun hc => ?_) (fun hc => ?_)
  · replace h := h.2 hc
    show G Γ m_MO_copy (d + 1) (0, 0) Q 29 [.ref r0, .ref r1, .int x2, .int x3] [] μ
    exact g_retv (by decide +kernel) rfl h
  · replace h := h.1 hc
    show G Γ m_MO_copy (d + 1) (0, 0) Q 17 [.ref r0, .ref r1, .int x2, .int x3] [] μ
    obtain ⟨ib1, h⟩ := h
    obtain ⟨is2, h⟩ := h
    refine run_ok (pc' := 23) [(.aload_n 1, 0, 0, 0), (.iload_n 3, 0, 0, 0), (.aload_n 0, 0, 0, 0), (.iload_n 3, 0, 0, 0), (.iaload, 0, 0, 0), (.iastore, 0, 0, 0)] _ _ _ _ (by decide +kernel) ?_
    show _ ∧ (_ ∧ (_))
    refine ⟨ib1, is2, ?_⟩
    show G Γ m_MO_copy (d + 1) (0, 0) Q 23 [.ref r0, .ref r1, .int x2, .int x3] [] (sI μ r1 x3.toNatClampNeg (xI μ r0 x3.toNatClampNeg))
    obtain ⟨μ3, em3⟩ : ∃ m : XM, m = sI μ r1 x3.toNatClampNeg (xI μ r0 x3.toNatClampNeg) := ⟨_, rfl⟩
    replace h := h μ3 em3
    have hm3 : xN μ ≤ xN μ3 := by rw [em3]; exact Nat.le_refl _
    rw [← em3]
    refine run_ok (pc' := 12) [(.iinc 3 1, 0, 0, 0), (.goto (-14), 0, 0, 0)] _ _ _ _ (by decide +kernel) ?_
    show G Γ m_MO_copy (d + 1) (0, 0) Q 12 [.ref r0, .ref r1, .int x2, .int (x3 + w 1)] [] μ3
    exact h
/-! FrostBoxModel isKind(I)Z -/
set_option maxRecDepth 100000 in
theorem B_MO_isKind_0 {Γ : XG} {d : Nat} {Q : Option Value → XM → Prop} {r0 : Nat} {x1 : Int32} {μ : XM} (o_r0_11 : ob μ r0 11) (h : ((x1 < w 0 → Q (some (.int (w 0))) μ) ∧ (¬ x1 < w 0 → ((x1 < xI μ r0 25 → Q (some (.int (w 1))) μ) ∧ (¬ x1 < xI μ r0 25 → Q (some (.int (w 0))) μ))))) : G Γ m_MO_isKind (d + 1) (0, 0) Q 0 [.ref r0, .int x1] [] μ := by
  refine run_ok (pc' := 1) [(.iload_n 1, 0, 0, 0)] _ _ _ _ (by decide +kernel) ?_
  show G Γ m_MO_isKind (d + 1) (0, 0) Q 1 [.ref r0, .int x1] [.int x1] μ
  refine g_ifz_lt (pc' := 16) (off := 15) (by decide) (by decide +kernel) (fun hc => ?_) (fun hc => ?_)
  · replace h := h.1 hc
    show G Γ m_MO_isKind (d + 1) (0, 0) Q 16 [.ref r0, .int x1] [] μ
    refine run_ok (pc' := 17) [(.iconst 0, 0, 0, 0)] _ _ _ _ (by decide +kernel) ?_
    show G Γ m_MO_isKind (d + 1) (0, 0) Q 17 [.ref r0, .int x1] [.int (w 0)] μ
    exact g_retz (by decide +kernel) rfl (Or.inl rfl) h
  · replace h := h.2 hc
    show G Γ m_MO_isKind (d + 1) (0, 0) Q 4 [.ref r0, .int x1] [] μ
    refine run_ok (pc' := 9) [(.iload_n 1, 0, 0, 0), (.aload_n 0, 0, 0, 0), (.getfield 307, 11, 25, 0)] _ _ _ _ (by decide +kernel) ?_
    show _ ∧ (_)
    refine ⟨o_r0_11, ?_⟩
    show G Γ m_MO_isKind (d + 1) (0, 0) Q 9 [.ref r0, .int x1] [.int (xI μ r0 25), .int x1] μ
    refine g_icmp_ge (pc' := 16) (off := 7) (by decide) (by decide +kernel) (fun hc => ?_) (fun hc => ?_)
    · replace h := h.2 hc
      show G Γ m_MO_isKind (d + 1) (0, 0) Q 16 [.ref r0, .int x1] [] μ
      refine run_ok (pc' := 17) [(.iconst 0, 0, 0, 0)] _ _ _ _ (by decide +kernel) ?_
      show G Γ m_MO_isKind (d + 1) (0, 0) Q 17 [.ref r0, .int x1] [.int (w 0)] μ
      exact g_retz (by decide +kernel) rfl (Or.inl rfl) h
    · replace h := h.1 hc
      show G Γ m_MO_isKind (d + 1) (0, 0) Q 12 [.ref r0, .int x1] [] μ
      refine run_ok (pc' := 17) [(.iconst 1, 0, 0, 0), (.goto 4, 0, 0, 0)] _ _ _ _ (by decide +kernel) ?_
      show G Γ m_MO_isKind (d + 1) (0, 0) Q 17 [.ref r0, .int x1] [.int (w 1)] μ
      exact g_retz (by decide +kernel) rfl (Or.inr rfl) h
/-! FrostBoxModel isBox([II)Z -/
set_option maxRecDepth 100000 in
theorem B_MO_isBox_0 {Γ : XG} {d : Nat} {Q : Option Value → XM → Prop} {r0 r1 : Nat} {x2 : Int32} {μ : XM} (o_r0_11 : ob μ r0 11) (h : ((w 0 < xI μ r0 25 → ((x2 < w 0 → Q (some (.int (w 0))) μ) ∧ (¬ x2 < w 0 → inb μ 0 r1 (w 40) ∧ ((x2 < xI μ r1 (w 40).toNatClampNeg → Q (some (.int (w 1))) μ) ∧ (¬ x2 < xI μ r1 (w 40).toNatClampNeg → Q (some (.int (w 0))) μ))))) ∧ (¬ w 0 < xI μ r0 25 → Q (some (.int (w 0))) μ))) : G Γ m_MO_isBox (d + 1) (0, 0) Q 0 [.ref r0, .ref r1, .int x2] [] μ := by
  refine run_ok (pc' := 4) [(.aload_n 0, 0, 0, 0), (.getfield 307, 11, 25, 0)] _ _ _ _ (by decide +kernel) ?_
  show _ ∧ (_)
  refine ⟨o_r0_11, ?_⟩
  show G Γ m_MO_isBox (d + 1) (0, 0) Q 4 [.ref r0, .ref r1, .int x2] [.int (xI μ r0 25)] μ
  refine g_ifz_le (pc' := 23) (off := 19) (by decide) (by decide +kernel) (fun hc => ?_) (fun hc => ?_)
  · replace h := h.2 hc
    show G Γ m_MO_isBox (d + 1) (0, 0) Q 23 [.ref r0, .ref r1, .int x2] [] μ
    refine run_ok (pc' := 24) [(.iconst 0, 0, 0, 0)] _ _ _ _ (by decide +kernel) ?_
    show G Γ m_MO_isBox (d + 1) (0, 0) Q 24 [.ref r0, .ref r1, .int x2] [.int (w 0)] μ
    exact g_retz (by decide +kernel) rfl (Or.inl rfl) h
  · replace h := h.1 hc
    show G Γ m_MO_isBox (d + 1) (0, 0) Q 7 [.ref r0, .ref r1, .int x2] [] μ
    refine run_ok (pc' := 8) [(.iload_n 2, 0, 0, 0)] _ _ _ _ (by decide +kernel) ?_
    show G Γ m_MO_isBox (d + 1) (0, 0) Q 8 [.ref r0, .ref r1, .int x2] [.int x2] μ
    refine g_ifz_lt (pc' := 23) (off := 15) (by decide) (by decide +kernel) (fun hc => ?_) (fun hc => ?_)
    · replace h := h.1 hc
      show G Γ m_MO_isBox (d + 1) (0, 0) Q 23 [.ref r0, .ref r1, .int x2] [] μ
      refine run_ok (pc' := 24) [(.iconst 0, 0, 0, 0)] _ _ _ _ (by decide +kernel) ?_
      show G Γ m_MO_isBox (d + 1) (0, 0) Q 24 [.ref r0, .ref r1, .int x2] [.int (w 0)] μ
      exact g_retz (by decide +kernel) rfl (Or.inl rfl) h
    · replace h := h.2 hc
      show G Γ m_MO_isBox (d + 1) (0, 0) Q 11 [.ref r0, .ref r1, .int x2] [] μ
      obtain ⟨ib1, h⟩ := h
      refine run_ok (pc' := 16) [(.iload_n 2, 0, 0, 0), (.aload_n 1, 0, 0, 0), (.bipush 40, 0, 0, 0), (.iaload, 0, 0, 0)] _ _ _ _ (by decide +kernel) ?_
      show _ ∧ (_)
      refine ⟨ib1, ?_⟩
      show G Γ m_MO_isBox (d + 1) (0, 0) Q 16 [.ref r0, .ref r1, .int x2] [.int (xI μ r1 (w 40).toNatClampNeg), .int x2] μ
      refine g_icmp_ge (pc' := 23) (off := 7) (by decide) (by decide +kernel) (fun hc => ?_) (fun hc => ?_)
      · replace h := h.2 hc
        show G Γ m_MO_isBox (d + 1) (0, 0) Q 23 [.ref r0, .ref r1, .int x2] [] μ
        refine run_ok (pc' := 24) [(.iconst 0, 0, 0, 0)] _ _ _ _ (by decide +kernel) ?_
        show G Γ m_MO_isBox (d + 1) (0, 0) Q 24 [.ref r0, .ref r1, .int x2] [.int (w 0)] μ
        exact g_retz (by decide +kernel) rfl (Or.inl rfl) h
      · replace h := h.1 hc
        show G Γ m_MO_isBox (d + 1) (0, 0) Q 19 [.ref r0, .ref r1, .int x2] [] μ
        refine run_ok (pc' := 24) [(.iconst 1, 0, 0, 0), (.goto 4, 0, 0, 0)] _ _ _ _ (by decide +kernel) ?_
        show G Γ m_MO_isBox (d + 1) (0, 0) Q 24 [.ref r0, .ref r1, .int x2] [.int (w 1)] μ
        exact g_retz (by decide +kernel) rfl (Or.inr rfl) h
/-! FrostBoxModel told(II)I -/
set_option maxRecDepth 100000 in
theorem B_MO_told_0 {Γ : XG} {d : Nat} {Q : Option Value → XM → Prop} {r0 r0_20 : Nat} {x1 x2 : Int32} {μ : XM} (o_r0_11 : ob μ r0 11) (e_r0_20 : xR μ r0 20 = some r0_20) (h : inb μ 0 r0_20 (((w 5) * x1) + x2) ∧ Q (some (.int (xI μ r0_20 (((w 5) * x1) + x2).toNatClampNeg))) μ) : G Γ m_MO_told (d + 1) (0, 0) Q 0 [.ref r0, .int x1, .int x2] [] μ := by
  obtain ⟨ib1, h⟩ := h
  refine run_ok (pc' := 10) [(.aload_n 0, 0, 0, 0), (.getfield 43, 11, 20, 2), (.iconst 5, 0, 0, 0), (.iload_n 1, 0, 0, 0), (.imul, 0, 0, 0), (.iload_n 2, 0, 0, 0), (.iadd, 0, 0, 0), (.iaload, 0, 0, 0)] _ _ _ _ (by decide +kernel) ?_
  show _ ∧ (∃ _, _ ∧ (_ ∧ (_)))
  refine ⟨o_r0_11, r0_20, e_r0_20, ib1, ?_⟩
  show G Γ m_MO_told (d + 1) (0, 0) Q 10 [.ref r0, .int x1, .int x2] [.int (xI μ r0_20 (((w 5) * x1) + x2).toNatClampNeg)] μ
  exact g_reti (by decide +kernel) rfl h
/-! FrostBoxModel portionOf(IIIII)I -/
set_option maxRecDepth 100000 in
theorem lm_11_325 : Lk_maxI 11 325 := ⟨lwG_in (List.mem_of_getElem? (i := 1625) rfl) rfl, lwG_in (List.mem_of_getElem? (i := 749) rfl) rfl, lwG_in (List.mem_of_getElem? (i := 130) rfl) rfl, lwG_in (List.mem_of_getElem? (i := 750) rfl) rfl⟩
set_option maxRecDepth 100000 in
theorem lm_11_330 : Lk_minI 11 330 := ⟨lwG_in (List.mem_of_getElem? (i := 1620) rfl) rfl, lwG_in (List.mem_of_getElem? (i := 705) rfl) rfl, lwG_in (List.mem_of_getElem? (i := 130) rfl) rfl, lwG_in (List.mem_of_getElem? (i := 706) rfl) rfl⟩
set_option maxRecDepth 100000 in
theorem lk_11_322 : LkV 11 322 m_MO_told 2 := ⟨lc_MO_told, lwG_in (List.mem_of_getElem? (i := 1599) rfl) rfl, lwG_in (List.mem_of_getElem? (i := 1601) rfl) rfl, lwG_in (List.mem_of_getElem? (i := 76) rfl) rfl⟩
set_option maxRecDepth 100000 in
theorem lk_11_327 : LkV 11 327 m_MO_worthNow 0 := ⟨lc_MO_worthNow, lwG_in (List.mem_of_getElem? (i := 1626) rfl) rfl, lwG_in (List.mem_of_getElem? (i := 1628) rfl) rfl, lwG_in (List.mem_of_getElem? (i := 81) rfl) rfl⟩
set_option maxRecDepth 100000 in
theorem B_MO_portionOf_0 {Γ : XG} {d : Nat} {Q : Option Value → XM → Prop} {r0 : Nat} {x1 x2 x3 x4 x5 : Int32} {μ : XM} (o_r0_11 : ob μ r0 11) (h : Call Γ m_MO_told d [.ref r0, .int x1, .int (w 2)] μ (KI (fun v1 μ1 => ((xI μ1 r0 32 = w (-1) → Call Γ m_MO_told d [.ref r0, .int x1, .int (w 3)] μ1 (KI (fun v2 μ2 => Q (some (.int (jmax (w 0) (v2 - (jmax (w 0) (jmin (w 9) (jmax (w 0) (x3 - v1)))))))) μ2))) ∧ (¬ xI μ1 r0 32 = w (-1) → ∃ a3, xR μ1 r0 4 = some a3 ∧ inS μ1 0 a3 (w 97) ∧ ∀ μ5, μ5 = sI μ1 a3 (w 97).toNatClampNeg x3 → Call Γ m_MO_told d [.ref r0, .int x1, .int (w 2)] μ5 (KI (fun v6 μ6 => inS μ6 0 a3 (w 111) ∧ ∀ μ8, μ8 = sI μ6 a3 (w 111).toNatClampNeg v6 → xR μ8 r0 4 = some a3 ∧ inS μ8 0 a3 (w 110) ∧ ∀ μ11, μ11 = sI μ8 a3 (w 110).toNatClampNeg x2 → inS μ11 0 a3 (w 121) ∧ ∀ μ13, μ13 = sI μ11 a3 (w 121).toNatClampNeg x4 → inS μ13 0 a3 (w 107) ∧ ∀ μ15, μ15 = sI μ13 a3 (w 107).toNatClampNeg x1 → inS μ15 0 a3 (w 109) ∧ ∀ μ17, μ17 = sI μ15 a3 (w 109).toNatClampNeg x5 → Call Γ m_MO_worthNow d [.ref r0] μ17 (KI (fun v18 μ18 => Call Γ m_MO_told d [.ref r0, .int x1, .int (w 3)] μ18 (KI (fun v19 μ19 => Q (some (.int (jmax (w 0) (v19 - (jmax (w 0) (jmin (w 9) v18)))))) μ19))))))))))) : G Γ m_MO_portionOf (d + 1) (0, 0) Q 0 [.ref r0, .int x1, .int x2, .int x3, .int x4, .int x5] [] μ := by
  refine run_ok (pc' := 5) [(.iconst 0, 0, 0, 0), (.iload_n 3, 0, 0, 0), (.aload_n 0, 0, 0, 0), (.iload_n 1, 0, 0, 0), (.iconst 2, 0, 0, 0)] _ _ _ _ (by decide +kernel) ?_
  show G Γ m_MO_portionOf (d + 1) (0, 0) Q 5 [.ref r0, .int x1, .int x2, .int x3, .int x4, .int x5] [.int (w 2), .int x1, .ref r0, .int x3, .int (w 0)] μ
  refine g_invV (M' := m_MO_told) (b1 := 0) (b2 := 0) (As := [.int x1, .int (w 2)]) (a := r0) (st := [.int x3, .int (w 0)]) lk_11_322 (by decide +kernel) rfl (dk_MO_told d) (Nat.le_of_ble_eq_true rfl) (Or.inl ⟨11, o_r0_11, rfl⟩) h ?_
  rintro _ μ1 ⟨v1, rfl, h⟩ hn1
  show G Γ m_MO_portionOf (d + 1) (0, 0) Q 8 [.ref r0, .int x1, .int x2, .int x3, .int x4, .int x5] [.int v1, .int x3, .int (w 0)] μ1
  refine run_ok (pc' := 9) [(.isub, 0, 0, 0)] _ _ _ _ (by decide +kernel) ?_
  show G Γ m_MO_portionOf (d + 1) (0, 0) Q 9 [.ref r0, .int x1, .int x2, .int x3, .int x4, .int x5] [.int (x3 - v1), .int (w 0)] μ1
  refine g_maxI (i := 325) lm_11_325 (Nat.le_of_ble_eq_true rfl) (by decide +kernel) ?_
  show G Γ m_MO_portionOf (d + 1) (0, 0) Q 12 [.ref r0, .int x1, .int x2, .int x3, .int x4, .int x5] [.int (jmax (w 0) (x3 - v1))] μ1
  refine run_ok (pc' := 19) [(.istore 6, 0, 0, 0), (.aload_n 0, 0, 0, 0), (.getfield 64, 11, 32, 0), (.iconst (-1), 0, 0, 0)] _ _ _ _ (by decide +kernel) ?_
  show _ ∧ (_)
  refine ⟨((o_r0_11).mono hn1), ?_⟩
  show G Γ m_MO_portionOf (d + 1) (0, 0) Q 19 [.ref r0, .int x1, .int x2, .int x3, .int x4, .int x5, .int (jmax (w 0) (x3 - v1))] [.int (w (-1)), .int (xI μ1 r0 32)] μ1
  refine g_icmp_eq (pc' := 83) (off := 64) (by decide) (by decide +kernel) (fun hc => ?_) (fun hc => ?_)
  · replace h := h.1 hc
    show G Γ m_MO_portionOf (d + 1) (0, 0) Q 83 [.ref r0, .int x1, .int x2, .int x3, .int x4, .int x5, .int (jmax (w 0) (x3 - v1))] [] μ1
    refine run_ok (pc' := 87) [(.iconst 0, 0, 0, 0), (.aload_n 0, 0, 0, 0), (.iload_n 1, 0, 0, 0), (.iconst 3, 0, 0, 0)] _ _ _ _ (by decide +kernel) ?_
    show G Γ m_MO_portionOf (d + 1) (0, 0) Q 87 [.ref r0, .int x1, .int x2, .int x3, .int x4, .int x5, .int (jmax (w 0) (x3 - v1))] [.int (w 3), .int x1, .ref r0, .int (w 0)] μ1
    refine g_invV (M' := m_MO_told) (b1 := 0) (b2 := 0) (As := [.int x1, .int (w 3)]) (a := r0) (st := [.int (w 0)]) lk_11_322 (by decide +kernel) rfl (dk_MO_told d) (Nat.le_of_ble_eq_true rfl) (Or.inl ⟨11, ((o_r0_11).mono hn1), rfl⟩) h ?_
    rintro _ μ2 ⟨v2, rfl, h⟩ hn2
    show G Γ m_MO_portionOf (d + 1) (0, 0) Q 90 [.ref r0, .int x1, .int x2, .int x3, .int x4, .int x5, .int (jmax (w 0) (x3 - v1))] [.int v2, .int (w 0)] μ2
    refine run_ok (pc' := 95) [(.iconst 0, 0, 0, 0), (.bipush 9, 0, 0, 0), (.iload 6, 0, 0, 0)] _ _ _ _ (by decide +kernel) ?_
    show G Γ m_MO_portionOf (d + 1) (0, 0) Q 95 [.ref r0, .int x1, .int x2, .int x3, .int x4, .int x5, .int (jmax (w 0) (x3 - v1))] [.int (jmax (w 0) (x3 - v1)), .int (w 9), .int (w 0), .int v2, .int (w 0)] μ2
    refine g_minI (i := 330) lm_11_330 (Nat.le_of_ble_eq_true rfl) (by decide +kernel) ?_
    show G Γ m_MO_portionOf (d + 1) (0, 0) Q 98 [.ref r0, .int x1, .int x2, .int x3, .int x4, .int x5, .int (jmax (w 0) (x3 - v1))] [.int (jmin (w 9) (jmax (w 0) (x3 - v1))), .int (w 0), .int v2, .int (w 0)] μ2
    refine g_maxI (i := 325) lm_11_325 (Nat.le_of_ble_eq_true rfl) (by decide +kernel) ?_
    show G Γ m_MO_portionOf (d + 1) (0, 0) Q 101 [.ref r0, .int x1, .int x2, .int x3, .int x4, .int x5, .int (jmax (w 0) (x3 - v1))] [.int (jmax (w 0) (jmin (w 9) (jmax (w 0) (x3 - v1)))), .int v2, .int (w 0)] μ2
    refine run_ok (pc' := 102) [(.isub, 0, 0, 0)] _ _ _ _ (by decide +kernel) ?_
    show G Γ m_MO_portionOf (d + 1) (0, 0) Q 102 [.ref r0, .int x1, .int x2, .int x3, .int x4, .int x5, .int (jmax (w 0) (x3 - v1))] [.int (v2 - (jmax (w 0) (jmin (w 9) (jmax (w 0) (x3 - v1))))), .int (w 0)] μ2
    refine g_maxI (i := 325) lm_11_325 (Nat.le_of_ble_eq_true rfl) (by decide +kernel) ?_
    show G Γ m_MO_portionOf (d + 1) (0, 0) Q 105 [.ref r0, .int x1, .int x2, .int x3, .int x4, .int x5, .int (jmax (w 0) (x3 - v1))] [.int (jmax (w 0) (v2 - (jmax (w 0) (jmin (w 9) (jmax (w 0) (x3 - v1))))))] μ2
    exact g_reti (by decide +kernel) rfl h
  · replace h := h.2 hc
    show G Γ m_MO_portionOf (d + 1) (0, 0) Q 22 [.ref r0, .int x1, .int x2, .int x3, .int x4, .int x5, .int (jmax (w 0) (x3 - v1))] [] μ1
    obtain ⟨a3, ea3, h⟩ := h
    obtain ⟨is4, h⟩ := h
    refine run_ok (pc' := 30) [(.aload_n 0, 0, 0, 0), (.getfield 20, 11, 4, 2), (.bipush 97, 0, 0, 0), (.iload_n 3, 0, 0, 0), (.iastore, 0, 0, 0)] _ _ _ _ (by decide +kernel) ?_
    show _ ∧ (∃ _, _ ∧ (_ ∧ (_)))
    refine ⟨((o_r0_11).mono hn1), a3, ea3, is4, ?_⟩
    show G Γ m_MO_portionOf (d + 1) (0, 0) Q 30 [.ref r0, .int x1, .int x2, .int x3, .int x4, .int x5, .int (jmax (w 0) (x3 - v1))] [] (sI μ1 a3 (w 97).toNatClampNeg x3)
    obtain ⟨μ5, em5⟩ : ∃ m : XM, m = sI μ1 a3 (w 97).toNatClampNeg x3 := ⟨_, rfl⟩
    replace h := h μ5 em5
    have hm5 : xN μ1 ≤ xN μ5 := by rw [em5]; exact Nat.le_refl _
    rw [← em5]
    refine run_ok (pc' := 39) [(.aload_n 0, 0, 0, 0), (.getfield 20, 11, 4, 2), (.bipush 111, 0, 0, 0), (.aload_n 0, 0, 0, 0), (.iload_n 1, 0, 0, 0), (.iconst 2, 0, 0, 0)] _ _ _ _ (by decide +kernel) ?_
    show _ ∧ (∃ _, _ ∧ (_))
    refine ⟨(((o_r0_11).mono hn1).mono hm5), a3, (by rw [em5]; exact ea3), ?_⟩
    show G Γ m_MO_portionOf (d + 1) (0, 0) Q 39 [.ref r0, .int x1, .int x2, .int x3, .int x4, .int x5, .int (jmax (w 0) (x3 - v1))] [.int (w 2), .int x1, .ref r0, .int (w 111), .ref a3] μ5
    refine g_invV (M' := m_MO_told) (b1 := 0) (b2 := 0) (As := [.int x1, .int (w 2)]) (a := r0) (st := [.int (w 111), .ref a3]) lk_11_322 (by decide +kernel) rfl (dk_MO_told d) (Nat.le_of_ble_eq_true rfl) (Or.inl ⟨11, (((o_r0_11).mono hn1).mono hm5), rfl⟩) h ?_
    rintro _ μ6 ⟨v6, rfl, h⟩ hn6
    show G Γ m_MO_portionOf (d + 1) (0, 0) Q 42 [.ref r0, .int x1, .int x2, .int x3, .int x4, .int x5, .int (jmax (w 0) (x3 - v1))] [.int v6, .int (w 111), .ref a3] μ6
    obtain ⟨is7, h⟩ := h
    refine run_ok (pc' := 43) [(.iastore, 0, 0, 0)] _ _ _ _ (by decide +kernel) ?_
    show _ ∧ (_)
    refine ⟨is7, ?_⟩
    show G Γ m_MO_portionOf (d + 1) (0, 0) Q 43 [.ref r0, .int x1, .int x2, .int x3, .int x4, .int x5, .int (jmax (w 0) (x3 - v1))] [] (sI μ6 a3 (w 111).toNatClampNeg v6)
    obtain ⟨μ8, em8⟩ : ∃ m : XM, m = sI μ6 a3 (w 111).toNatClampNeg v6 := ⟨_, rfl⟩
    replace h := h μ8 em8
    have hm8 : xN μ6 ≤ xN μ8 := by rw [em8]; exact Nat.le_refl _
    rw [← em8]
    obtain ⟨ea9, h⟩ := h
    obtain ⟨is10, h⟩ := h
    refine run_ok (pc' := 51) [(.aload_n 0, 0, 0, 0), (.getfield 20, 11, 4, 2), (.bipush 110, 0, 0, 0), (.iload_n 2, 0, 0, 0), (.iastore, 0, 0, 0)] _ _ _ _ (by decide +kernel) ?_
    show _ ∧ (∃ _, _ ∧ (_ ∧ (_)))
    refine ⟨(((((o_r0_11).mono hn1).mono hm5).mono hn6).mono hm8), a3, ea9, is10, ?_⟩
    show G Γ m_MO_portionOf (d + 1) (0, 0) Q 51 [.ref r0, .int x1, .int x2, .int x3, .int x4, .int x5, .int (jmax (w 0) (x3 - v1))] [] (sI μ8 a3 (w 110).toNatClampNeg x2)
    obtain ⟨μ11, em11⟩ : ∃ m : XM, m = sI μ8 a3 (w 110).toNatClampNeg x2 := ⟨_, rfl⟩
    replace h := h μ11 em11
    have hm11 : xN μ8 ≤ xN μ11 := by rw [em11]; exact Nat.le_refl _
    rw [← em11]
    obtain ⟨is12, h⟩ := h
    refine run_ok (pc' := 60) [(.aload_n 0, 0, 0, 0), (.getfield 20, 11, 4, 2), (.bipush 121, 0, 0, 0), (.iload 4, 0, 0, 0), (.iastore, 0, 0, 0)] _ _ _ _ (by decide +kernel) ?_
    show _ ∧ (∃ _, _ ∧ (_ ∧ (_)))
    refine ⟨((((((o_r0_11).mono hn1).mono hm5).mono hn6).mono hm8).mono hm11), a3, (by rw [em11]; exact ea9), is12, ?_⟩
    show G Γ m_MO_portionOf (d + 1) (0, 0) Q 60 [.ref r0, .int x1, .int x2, .int x3, .int x4, .int x5, .int (jmax (w 0) (x3 - v1))] [] (sI μ11 a3 (w 121).toNatClampNeg x4)
    obtain ⟨μ13, em13⟩ : ∃ m : XM, m = sI μ11 a3 (w 121).toNatClampNeg x4 := ⟨_, rfl⟩
    replace h := h μ13 em13
    have hm13 : xN μ11 ≤ xN μ13 := by rw [em13]; exact Nat.le_refl _
    rw [← em13]
    obtain ⟨is14, h⟩ := h
    refine run_ok (pc' := 68) [(.aload_n 0, 0, 0, 0), (.getfield 20, 11, 4, 2), (.bipush 107, 0, 0, 0), (.iload_n 1, 0, 0, 0), (.iastore, 0, 0, 0)] _ _ _ _ (by decide +kernel) ?_
    show _ ∧ (∃ _, _ ∧ (_ ∧ (_)))
    refine ⟨(((((((o_r0_11).mono hn1).mono hm5).mono hn6).mono hm8).mono hm11).mono hm13), a3, (by rw [em13]; exact (by rw [em11]; exact ea9)), is14, ?_⟩
    show G Γ m_MO_portionOf (d + 1) (0, 0) Q 68 [.ref r0, .int x1, .int x2, .int x3, .int x4, .int x5, .int (jmax (w 0) (x3 - v1))] [] (sI μ13 a3 (w 107).toNatClampNeg x1)
    obtain ⟨μ15, em15⟩ : ∃ m : XM, m = sI μ13 a3 (w 107).toNatClampNeg x1 := ⟨_, rfl⟩
    replace h := h μ15 em15
    have hm15 : xN μ13 ≤ xN μ15 := by rw [em15]; exact Nat.le_refl _
    rw [← em15]
    obtain ⟨is16, h⟩ := h
    refine run_ok (pc' := 77) [(.aload_n 0, 0, 0, 0), (.getfield 20, 11, 4, 2), (.bipush 109, 0, 0, 0), (.iload 5, 0, 0, 0), (.iastore, 0, 0, 0)] _ _ _ _ (by decide +kernel) ?_
    show _ ∧ (∃ _, _ ∧ (_ ∧ (_)))
    refine ⟨((((((((o_r0_11).mono hn1).mono hm5).mono hn6).mono hm8).mono hm11).mono hm13).mono hm15), a3, (by rw [em15]; exact (by rw [em13]; exact (by rw [em11]; exact ea9))), is16, ?_⟩
    show G Γ m_MO_portionOf (d + 1) (0, 0) Q 77 [.ref r0, .int x1, .int x2, .int x3, .int x4, .int x5, .int (jmax (w 0) (x3 - v1))] [] (sI μ15 a3 (w 109).toNatClampNeg x5)
    obtain ⟨μ17, em17⟩ : ∃ m : XM, m = sI μ15 a3 (w 109).toNatClampNeg x5 := ⟨_, rfl⟩
    replace h := h μ17 em17
    have hm17 : xN μ15 ≤ xN μ17 := by rw [em17]; exact Nat.le_refl _
    rw [← em17]
    refine run_ok (pc' := 78) [(.aload_n 0, 0, 0, 0)] _ _ _ _ (by decide +kernel) ?_
    show G Γ m_MO_portionOf (d + 1) (0, 0) Q 78 [.ref r0, .int x1, .int x2, .int x3, .int x4, .int x5, .int (jmax (w 0) (x3 - v1))] [.ref r0] μ17
    refine g_invV (M' := m_MO_worthNow) (b1 := 0) (b2 := 0) (As := []) (a := r0) (st := []) lk_11_327 (by decide +kernel) rfl (dk_MO_worthNow d) (Nat.le_of_ble_eq_true rfl) (Or.inl ⟨11, (((((((((o_r0_11).mono hn1).mono hm5).mono hn6).mono hm8).mono hm11).mono hm13).mono hm15).mono hm17), rfl⟩) h ?_
    rintro _ μ18 ⟨v18, rfl, h⟩ hn18
    show G Γ m_MO_portionOf (d + 1) (0, 0) Q 81 [.ref r0, .int x1, .int x2, .int x3, .int x4, .int x5, .int (jmax (w 0) (x3 - v1))] [.int v18] μ18
    refine run_ok (pc' := 87) [(.istore 6, 0, 0, 0), (.iconst 0, 0, 0, 0), (.aload_n 0, 0, 0, 0), (.iload_n 1, 0, 0, 0), (.iconst 3, 0, 0, 0)] _ _ _ _ (by decide +kernel) ?_
    show G Γ m_MO_portionOf (d + 1) (0, 0) Q 87 [.ref r0, .int x1, .int x2, .int x3, .int x4, .int x5, .int v18] [.int (w 3), .int x1, .ref r0, .int (w 0)] μ18
    refine g_invV (M' := m_MO_told) (b1 := 0) (b2 := 0) (As := [.int x1, .int (w 3)]) (a := r0) (st := [.int (w 0)]) lk_11_322 (by decide +kernel) rfl (dk_MO_told d) (Nat.le_of_ble_eq_true rfl) (Or.inl ⟨11, ((((((((((o_r0_11).mono hn1).mono hm5).mono hn6).mono hm8).mono hm11).mono hm13).mono hm15).mono hm17).mono hn18), rfl⟩) h ?_
    rintro _ μ19 ⟨v19, rfl, h⟩ hn19
    show G Γ m_MO_portionOf (d + 1) (0, 0) Q 90 [.ref r0, .int x1, .int x2, .int x3, .int x4, .int x5, .int v18] [.int v19, .int (w 0)] μ19
    refine run_ok (pc' := 95) [(.iconst 0, 0, 0, 0), (.bipush 9, 0, 0, 0), (.iload 6, 0, 0, 0)] _ _ _ _ (by decide +kernel) ?_
    show G Γ m_MO_portionOf (d + 1) (0, 0) Q 95 [.ref r0, .int x1, .int x2, .int x3, .int x4, .int x5, .int v18] [.int v18, .int (w 9), .int (w 0), .int v19, .int (w 0)] μ19
    refine g_minI (i := 330) lm_11_330 (Nat.le_of_ble_eq_true rfl) (by decide +kernel) ?_
    show G Γ m_MO_portionOf (d + 1) (0, 0) Q 98 [.ref r0, .int x1, .int x2, .int x3, .int x4, .int x5, .int v18] [.int (jmin (w 9) v18), .int (w 0), .int v19, .int (w 0)] μ19
    refine g_maxI (i := 325) lm_11_325 (Nat.le_of_ble_eq_true rfl) (by decide +kernel) ?_
    show G Γ m_MO_portionOf (d + 1) (0, 0) Q 101 [.ref r0, .int x1, .int x2, .int x3, .int x4, .int x5, .int v18] [.int (jmax (w 0) (jmin (w 9) v18)), .int v19, .int (w 0)] μ19
    refine run_ok (pc' := 102) [(.isub, 0, 0, 0)] _ _ _ _ (by decide +kernel) ?_
    show G Γ m_MO_portionOf (d + 1) (0, 0) Q 102 [.ref r0, .int x1, .int x2, .int x3, .int x4, .int x5, .int v18] [.int (v19 - (jmax (w 0) (jmin (w 9) v18))), .int (w 0)] μ19
    refine g_maxI (i := 325) lm_11_325 (Nat.le_of_ble_eq_true rfl) (by decide +kernel) ?_
    show G Γ m_MO_portionOf (d + 1) (0, 0) Q 105 [.ref r0, .int x1, .int x2, .int x3, .int x4, .int x5, .int v18] [.int (jmax (w 0) (v19 - (jmax (w 0) (jmin (w 9) v18))))] μ19
    exact g_reti (by decide +kernel) rfl h
/-! FrostBoxModel worthNow()I -/
set_option maxRecDepth 100000 in
theorem B_MO_worthNow_0 {Γ : XG} {d : Nat} {Q : Option Value → XM → Prop} {r0 r0_4 r0_34 r0_2 r0_3 r0_35 : Nat} {μ : XM} (o_r0_11 : ob μ r0 11) (e_r0_4 : xR μ r0 4 = some r0_4) (e_r0_34 : xR μ r0 34 = some r0_34) (e_r0_2 : xR μ r0 2 = some r0_2) (e_r0_3 : xR μ r0 3 = some r0_3) (e_r0_35 : xR μ r0 35 = some r0_35) (h : inb μ 0 r0_4 (w 109) ∧ inb μ 0 r0_4 (w 97) ∧ inb μ 0 r0_4 (w 111) ∧ inb μ 0 r0_4 (w 110) ∧ inb μ 0 r0_4 (w 121) ∧ inb μ 0 r0_4 (w 107) ∧ ¬ (wl 8191) = 0 ∧ inb μ 4 r0_34 ((((((wl 5) * (((wl 10) * (((wl 10) * (((wl 10) * (((wl 40) * (((wl 100) * ((xI μ r0_4 (w 109).toNatClampNeg).toInt64)) + ((xI μ r0_4 (w 97).toNatClampNeg).toInt64))) + ((xI μ r0_4 (w 111).toNatClampNeg).toInt64))) + ((xI μ r0_4 (w 110).toNatClampNeg).toInt64))) + ((xI μ r0_4 (w 121).toNatClampNeg).toInt64))) + ((xI μ r0_4 (w 107).toNatClampNeg).toInt64))) + ((xI μ r0 32).toInt64)) + (wl 1)) - ((((wl 5) * (((wl 10) * (((wl 10) * (((wl 10) * (((wl 40) * (((wl 100) * ((xI μ r0_4 (w 109).toNatClampNeg).toInt64)) + ((xI μ r0_4 (w 97).toNatClampNeg).toInt64))) + ((xI μ r0_4 (w 111).toNatClampNeg).toInt64))) + ((xI μ r0_4 (w 110).toNatClampNeg).toInt64))) + ((xI μ r0_4 (w 121).toNatClampNeg).toInt64))) + ((xI μ r0_4 (w 107).toNatClampNeg).toInt64))) + ((xI μ r0 32).toInt64)) + (wl 1)) / (wl 8191) * (wl 8191)).toInt32) ∧ ((lg_cmp (xL μ r0_34 ((((((wl 5) * (((wl 10) * (((wl 10) * (((wl 10) * (((wl 40) * (((wl 100) * ((xI μ r0_4 (w 109).toNatClampNeg).toInt64)) + ((xI μ r0_4 (w 97).toNatClampNeg).toInt64))) + ((xI μ r0_4 (w 111).toNatClampNeg).toInt64))) + ((xI μ r0_4 (w 110).toNatClampNeg).toInt64))) + ((xI μ r0_4 (w 121).toNatClampNeg).toInt64))) + ((xI μ r0_4 (w 107).toNatClampNeg).toInt64))) + ((xI μ r0 32).toInt64)) + (wl 1)) - ((((wl 5) * (((wl 10) * (((wl 10) * (((wl 10) * (((wl 40) * (((wl 100) * ((xI μ r0_4 (w 109).toNatClampNeg).toInt64)) + ((xI μ r0_4 (w 97).toNatClampNeg).toInt64))) + ((xI μ r0_4 (w 111).toNatClampNeg).toInt64))) + ((xI μ r0_4 (w 110).toNatClampNeg).toInt64))) + ((xI μ r0_4 (w 121).toNatClampNeg).toInt64))) + ((xI μ r0_4 (w 107).toNatClampNeg).toInt64))) + ((xI μ r0 32).toInt64)) + (wl 1)) / (wl 8191) * (wl 8191)).toInt32).toNatClampNeg) ((((wl 5) * (((wl 10) * (((wl 10) * (((wl 10) * (((wl 40) * (((wl 100) * ((xI μ r0_4 (w 109).toNatClampNeg).toInt64)) + ((xI μ r0_4 (w 97).toNatClampNeg).toInt64))) + ((xI μ r0_4 (w 111).toNatClampNeg).toInt64))) + ((xI μ r0_4 (w 110).toNatClampNeg).toInt64))) + ((xI μ r0_4 (w 121).toNatClampNeg).toInt64))) + ((xI μ r0_4 (w 107).toNatClampNeg).toInt64))) + ((xI μ r0 32).toInt64)) + (wl 1)) = w 0 → inb μ 0 r0_35 ((((((wl 5) * (((wl 10) * (((wl 10) * (((wl 10) * (((wl 40) * (((wl 100) * ((xI μ r0_4 (w 109).toNatClampNeg).toInt64)) + ((xI μ r0_4 (w 97).toNatClampNeg).toInt64))) + ((xI μ r0_4 (w 111).toNatClampNeg).toInt64))) + ((xI μ r0_4 (w 110).toNatClampNeg).toInt64))) + ((xI μ r0_4 (w 121).toNatClampNeg).toInt64))) + ((xI μ r0_4 (w 107).toNatClampNeg).toInt64))) + ((xI μ r0 32).toInt64)) + (wl 1)) - ((((wl 5) * (((wl 10) * (((wl 10) * (((wl 10) * (((wl 40) * (((wl 100) * ((xI μ r0_4 (w 109).toNatClampNeg).toInt64)) + ((xI μ r0_4 (w 97).toNatClampNeg).toInt64))) + ((xI μ r0_4 (w 111).toNatClampNeg).toInt64))) + ((xI μ r0_4 (w 110).toNatClampNeg).toInt64))) + ((xI μ r0_4 (w 121).toNatClampNeg).toInt64))) + ((xI μ r0_4 (w 107).toNatClampNeg).toInt64))) + ((xI μ r0 32).toInt64)) + (wl 1)) / (wl 8191) * (wl 8191)).toInt32) ∧ Q (some (.int (xI μ r0_35 ((((((wl 5) * (((wl 10) * (((wl 10) * (((wl 10) * (((wl 40) * (((wl 100) * ((xI μ r0_4 (w 109).toNatClampNeg).toInt64)) + ((xI μ r0_4 (w 97).toNatClampNeg).toInt64))) + ((xI μ r0_4 (w 111).toNatClampNeg).toInt64))) + ((xI μ r0_4 (w 110).toNatClampNeg).toInt64))) + ((xI μ r0_4 (w 121).toNatClampNeg).toInt64))) + ((xI μ r0_4 (w 107).toNatClampNeg).toInt64))) + ((xI μ r0 32).toInt64)) + (wl 1)) - ((((wl 5) * (((wl 10) * (((wl 10) * (((wl 10) * (((wl 40) * (((wl 100) * ((xI μ r0_4 (w 109).toNatClampNeg).toInt64)) + ((xI μ r0_4 (w 97).toNatClampNeg).toInt64))) + ((xI μ r0_4 (w 111).toNatClampNeg).toInt64))) + ((xI μ r0_4 (w 110).toNatClampNeg).toInt64))) + ((xI μ r0_4 (w 121).toNatClampNeg).toInt64))) + ((xI μ r0_4 (w 107).toNatClampNeg).toInt64))) + ((xI μ r0 32).toInt64)) + (wl 1)) / (wl 8191) * (wl 8191)).toInt32).toNatClampNeg))) μ) ∧ (¬ lg_cmp (xL μ r0_34 ((((((wl 5) * (((wl 10) * (((wl 10) * (((wl 10) * (((wl 40) * (((wl 100) * ((xI μ r0_4 (w 109).toNatClampNeg).toInt64)) + ((xI μ r0_4 (w 97).toNatClampNeg).toInt64))) + ((xI μ r0_4 (w 111).toNatClampNeg).toInt64))) + ((xI μ r0_4 (w 110).toNatClampNeg).toInt64))) + ((xI μ r0_4 (w 121).toNatClampNeg).toInt64))) + ((xI μ r0_4 (w 107).toNatClampNeg).toInt64))) + ((xI μ r0 32).toInt64)) + (wl 1)) - ((((wl 5) * (((wl 10) * (((wl 10) * (((wl 10) * (((wl 40) * (((wl 100) * ((xI μ r0_4 (w 109).toNatClampNeg).toInt64)) + ((xI μ r0_4 (w 97).toNatClampNeg).toInt64))) + ((xI μ r0_4 (w 111).toNatClampNeg).toInt64))) + ((xI μ r0_4 (w 110).toNatClampNeg).toInt64))) + ((xI μ r0_4 (w 121).toNatClampNeg).toInt64))) + ((xI μ r0_4 (w 107).toNatClampNeg).toInt64))) + ((xI μ r0 32).toInt64)) + (wl 1)) / (wl 8191) * (wl 8191)).toInt32).toNatClampNeg) ((((wl 5) * (((wl 10) * (((wl 10) * (((wl 10) * (((wl 40) * (((wl 100) * ((xI μ r0_4 (w 109).toNatClampNeg).toInt64)) + ((xI μ r0_4 (w 97).toNatClampNeg).toInt64))) + ((xI μ r0_4 (w 111).toNatClampNeg).toInt64))) + ((xI μ r0_4 (w 110).toNatClampNeg).toInt64))) + ((xI μ r0_4 (w 121).toNatClampNeg).toInt64))) + ((xI μ r0_4 (w 107).toNatClampNeg).toInt64))) + ((xI μ r0 32).toInt64)) + (wl 1)) = w 0 → inb μ 0 r0_3 (xI μ r0 32) ∧ Call Γ m_MO_goThrough d [.ref r0, .ref r0_2, .int ((w 240) * (xI μ r0 32)), .int (xI μ r0_3 (xI μ r0 32).toNatClampNeg)] μ (KV (fun μ10 => xR μ10 r0 34 = some r0_34 ∧ inS μ10 4 r0_34 ((((((wl 5) * (((wl 10) * (((wl 10) * (((wl 10) * (((wl 40) * (((wl 100) * ((xI μ r0_4 (w 109).toNatClampNeg).toInt64)) + ((xI μ r0_4 (w 97).toNatClampNeg).toInt64))) + ((xI μ r0_4 (w 111).toNatClampNeg).toInt64))) + ((xI μ r0_4 (w 110).toNatClampNeg).toInt64))) + ((xI μ r0_4 (w 121).toNatClampNeg).toInt64))) + ((xI μ r0_4 (w 107).toNatClampNeg).toInt64))) + ((xI μ r0 32).toInt64)) + (wl 1)) - ((((wl 5) * (((wl 10) * (((wl 10) * (((wl 10) * (((wl 40) * (((wl 100) * ((xI μ r0_4 (w 109).toNatClampNeg).toInt64)) + ((xI μ r0_4 (w 97).toNatClampNeg).toInt64))) + ((xI μ r0_4 (w 111).toNatClampNeg).toInt64))) + ((xI μ r0_4 (w 110).toNatClampNeg).toInt64))) + ((xI μ r0_4 (w 121).toNatClampNeg).toInt64))) + ((xI μ r0_4 (w 107).toNatClampNeg).toInt64))) + ((xI μ r0 32).toInt64)) + (wl 1)) / (wl 8191) * (wl 8191)).toInt32) ∧ ∀ μ13, μ13 = sL μ10 r0_34 ((((((wl 5) * (((wl 10) * (((wl 10) * (((wl 10) * (((wl 40) * (((wl 100) * ((xI μ r0_4 (w 109).toNatClampNeg).toInt64)) + ((xI μ r0_4 (w 97).toNatClampNeg).toInt64))) + ((xI μ r0_4 (w 111).toNatClampNeg).toInt64))) + ((xI μ r0_4 (w 110).toNatClampNeg).toInt64))) + ((xI μ r0_4 (w 121).toNatClampNeg).toInt64))) + ((xI μ r0_4 (w 107).toNatClampNeg).toInt64))) + ((xI μ r0 32).toInt64)) + (wl 1)) - ((((wl 5) * (((wl 10) * (((wl 10) * (((wl 10) * (((wl 40) * (((wl 100) * ((xI μ r0_4 (w 109).toNatClampNeg).toInt64)) + ((xI μ r0_4 (w 97).toNatClampNeg).toInt64))) + ((xI μ r0_4 (w 111).toNatClampNeg).toInt64))) + ((xI μ r0_4 (w 110).toNatClampNeg).toInt64))) + ((xI μ r0_4 (w 121).toNatClampNeg).toInt64))) + ((xI μ r0_4 (w 107).toNatClampNeg).toInt64))) + ((xI μ r0 32).toInt64)) + (wl 1)) / (wl 8191) * (wl 8191)).toInt32).toNatClampNeg ((((wl 5) * (((wl 10) * (((wl 10) * (((wl 10) * (((wl 40) * (((wl 100) * ((xI μ r0_4 (w 109).toNatClampNeg).toInt64)) + ((xI μ r0_4 (w 97).toNatClampNeg).toInt64))) + ((xI μ r0_4 (w 111).toNatClampNeg).toInt64))) + ((xI μ r0_4 (w 110).toNatClampNeg).toInt64))) + ((xI μ r0_4 (w 121).toNatClampNeg).toInt64))) + ((xI μ r0_4 (w 107).toNatClampNeg).toInt64))) + ((xI μ r0 32).toInt64)) + (wl 1)) → ∃ a14, xR μ13 r0 35 = some a14 ∧ inS μ13 0 a14 ((((((wl 5) * (((wl 10) * (((wl 10) * (((wl 10) * (((wl 40) * (((wl 100) * ((xI μ r0_4 (w 109).toNatClampNeg).toInt64)) + ((xI μ r0_4 (w 97).toNatClampNeg).toInt64))) + ((xI μ r0_4 (w 111).toNatClampNeg).toInt64))) + ((xI μ r0_4 (w 110).toNatClampNeg).toInt64))) + ((xI μ r0_4 (w 121).toNatClampNeg).toInt64))) + ((xI μ r0_4 (w 107).toNatClampNeg).toInt64))) + ((xI μ r0 32).toInt64)) + (wl 1)) - ((((wl 5) * (((wl 10) * (((wl 10) * (((wl 10) * (((wl 40) * (((wl 100) * ((xI μ r0_4 (w 109).toNatClampNeg).toInt64)) + ((xI μ r0_4 (w 97).toNatClampNeg).toInt64))) + ((xI μ r0_4 (w 111).toNatClampNeg).toInt64))) + ((xI μ r0_4 (w 110).toNatClampNeg).toInt64))) + ((xI μ r0_4 (w 121).toNatClampNeg).toInt64))) + ((xI μ r0_4 (w 107).toNatClampNeg).toInt64))) + ((xI μ r0 32).toInt64)) + (wl 1)) / (wl 8191) * (wl 8191)).toInt32) ∧ ∀ μ16, μ16 = sI μ13 a14 ((((((wl 5) * (((wl 10) * (((wl 10) * (((wl 10) * (((wl 40) * (((wl 100) * ((xI μ r0_4 (w 109).toNatClampNeg).toInt64)) + ((xI μ r0_4 (w 97).toNatClampNeg).toInt64))) + ((xI μ r0_4 (w 111).toNatClampNeg).toInt64))) + ((xI μ r0_4 (w 110).toNatClampNeg).toInt64))) + ((xI μ r0_4 (w 121).toNatClampNeg).toInt64))) + ((xI μ r0_4 (w 107).toNatClampNeg).toInt64))) + ((xI μ r0 32).toInt64)) + (wl 1)) - ((((wl 5) * (((wl 10) * (((wl 10) * (((wl 10) * (((wl 40) * (((wl 100) * ((xI μ r0_4 (w 109).toNatClampNeg).toInt64)) + ((xI μ r0_4 (w 97).toNatClampNeg).toInt64))) + ((xI μ r0_4 (w 111).toNatClampNeg).toInt64))) + ((xI μ r0_4 (w 110).toNatClampNeg).toInt64))) + ((xI μ r0_4 (w 121).toNatClampNeg).toInt64))) + ((xI μ r0_4 (w 107).toNatClampNeg).toInt64))) + ((xI μ r0 32).toInt64)) + (wl 1)) / (wl 8191) * (wl 8191)).toInt32).toNatClampNeg (xI μ13 r0 14) → Q (some (.int (xI μ16 r0 14))) μ16))))) : G Γ m_MO_worthNow (d + 1) (0, 0) Q 0 [.ref r0] [] μ := by
  obtain ⟨ib1, h⟩ := h
  obtain ⟨ib2, h⟩ := h
  obtain ⟨ib3, h⟩ := h
  refine run_ok (pc' := 45) [(.aload_n 0, 0, 0, 0), (.getfield 20, 11, 4, 2), (.bipush 109, 0, 0, 0), (.iaload, 0, 0, 0), (.i2l, 0, 0, 0), (.lstore_n 1, 0, 0, 0), (.ldc2_w 332, 0, 0, 100), (.lload_n 1, 0, 0, 0), (.lmul, 0, 0, 0), (.aload_n 0, 0, 0, 0), (.getfield 20, 11, 4, 2), (.bipush 97, 0, 0, 0), (.iaload, 0, 0, 0), (.i2l, 0, 0, 0), (.ladd, 0, 0, 0), (.lstore_n 1, 0, 0, 0), (.ldc2_w 334, 0, 0, 40), (.lload_n 1, 0, 0, 0), (.lmul, 0, 0, 0), (.aload_n 0, 0, 0, 0), (.getfield 20, 11, 4, 2), (.bipush 111, 0, 0, 0), (.iaload, 0, 0, 0), (.i2l, 0, 0, 0), (.ladd, 0, 0, 0), (.lstore_n 1, 0, 0, 0), (.ldc2_w 336, 0, 0, 10), (.lload_n 1, 0, 0, 0), (.lmul, 0, 0, 0), (.aload_n 0, 0, 0, 0)] _ _ _ _ (by decide +kernel) ?_
  show _ ∧ (∃ _, _ ∧ (_ ∧ (_ ∧ (∃ _, _ ∧ (_ ∧ (_ ∧ (∃ _, _ ∧ (_ ∧ (_)))))))))
  refine ⟨o_r0_11, r0_4, e_r0_4, ib1, o_r0_11, r0_4, e_r0_4, ib2, o_r0_11, r0_4, e_r0_4, ib3, ?_⟩
  show G Γ m_MO_worthNow (d + 1) (0, 0) Q 45 [.ref r0, .long (((wl 40) * (((wl 100) * ((xI μ r0_4 (w 109).toNatClampNeg).toInt64)) + ((xI μ r0_4 (w 97).toNatClampNeg).toInt64))) + ((xI μ r0_4 (w 111).toNatClampNeg).toInt64)), jk] [.ref r0, .long ((wl 10) * (((wl 40) * (((wl 100) * ((xI μ r0_4 (w 109).toNatClampNeg).toInt64)) + ((xI μ r0_4 (w 97).toNatClampNeg).toInt64))) + ((xI μ r0_4 (w 111).toNatClampNeg).toInt64)))] μ
  obtain ⟨ib4, h⟩ := h
  obtain ⟨ib5, h⟩ := h
  obtain ⟨ib6, h⟩ := h
  refine run_ok (pc' := 90) [(.getfield 20, 11, 4, 2), (.bipush 110, 0, 0, 0), (.iaload, 0, 0, 0), (.i2l, 0, 0, 0), (.ladd, 0, 0, 0), (.lstore_n 1, 0, 0, 0), (.ldc2_w 336, 0, 0, 10), (.lload_n 1, 0, 0, 0), (.lmul, 0, 0, 0), (.aload_n 0, 0, 0, 0), (.getfield 20, 11, 4, 2), (.bipush 121, 0, 0, 0), (.iaload, 0, 0, 0), (.i2l, 0, 0, 0), (.ladd, 0, 0, 0), (.lstore_n 1, 0, 0, 0), (.ldc2_w 336, 0, 0, 10), (.lload_n 1, 0, 0, 0), (.lmul, 0, 0, 0), (.aload_n 0, 0, 0, 0), (.getfield 20, 11, 4, 2), (.bipush 107, 0, 0, 0), (.iaload, 0, 0, 0), (.i2l, 0, 0, 0), (.ladd, 0, 0, 0), (.lstore_n 1, 0, 0, 0), (.ldc2_w 338, 0, 0, 5), (.lload_n 1, 0, 0, 0), (.lmul, 0, 0, 0), (.aload_n 0, 0, 0, 0)] _ _ _ _ (by decide +kernel) ?_
  show _ ∧ (∃ _, _ ∧ (_ ∧ (_ ∧ (∃ _, _ ∧ (_ ∧ (_ ∧ (∃ _, _ ∧ (_ ∧ (_)))))))))
  refine ⟨o_r0_11, r0_4, e_r0_4, ib4, o_r0_11, r0_4, e_r0_4, ib5, o_r0_11, r0_4, e_r0_4, ib6, ?_⟩
  show G Γ m_MO_worthNow (d + 1) (0, 0) Q 90 [.ref r0, .long (((wl 10) * (((wl 10) * (((wl 10) * (((wl 40) * (((wl 100) * ((xI μ r0_4 (w 109).toNatClampNeg).toInt64)) + ((xI μ r0_4 (w 97).toNatClampNeg).toInt64))) + ((xI μ r0_4 (w 111).toNatClampNeg).toInt64))) + ((xI μ r0_4 (w 110).toNatClampNeg).toInt64))) + ((xI μ r0_4 (w 121).toNatClampNeg).toInt64))) + ((xI μ r0_4 (w 107).toNatClampNeg).toInt64)), jk] [.ref r0, .long ((wl 5) * (((wl 10) * (((wl 10) * (((wl 10) * (((wl 40) * (((wl 100) * ((xI μ r0_4 (w 109).toNatClampNeg).toInt64)) + ((xI μ r0_4 (w 97).toNatClampNeg).toInt64))) + ((xI μ r0_4 (w 111).toNatClampNeg).toInt64))) + ((xI μ r0_4 (w 110).toNatClampNeg).toInt64))) + ((xI μ r0_4 (w 121).toNatClampNeg).toInt64))) + ((xI μ r0_4 (w 107).toNatClampNeg).toInt64)))] μ
  obtain ⟨nz7, h⟩ := h
  obtain ⟨ib8, h⟩ := h
  refine run_ok (pc' := 113) [(.getfield 64, 11, 32, 0), (.i2l, 0, 0, 0), (.ladd, 0, 0, 0), (.lconst 1, 0, 0, 1), (.ladd, 0, 0, 0), (.lstore_n 1, 0, 0, 0), (.lload_n 1, 0, 0, 0), (.ldc2_w 340, 0, 0, 8191), (.lrem, 0, 0, 0), (.l2i, 0, 0, 0), (.istore_n 3, 0, 0, 0), (.aload_n 0, 0, 0, 0), (.getfield 71, 11, 34, 2), (.iload_n 3, 0, 0, 0), (.laload, 0, 0, 0), (.lload_n 1, 0, 0, 0), (.lcmp, 0, 0, 0)] _ _ _ _ (by decide +kernel) ?_
  show _ ∧ (_ ∧ (_ ∧ (∃ _, _ ∧ (_ ∧ (_)))))
  refine ⟨o_r0_11, nz7, o_r0_11, r0_34, e_r0_34, ib8, ?_⟩
  show G Γ m_MO_worthNow (d + 1) (0, 0) Q 113 [.ref r0, .long ((((wl 5) * (((wl 10) * (((wl 10) * (((wl 10) * (((wl 40) * (((wl 100) * ((xI μ r0_4 (w 109).toNatClampNeg).toInt64)) + ((xI μ r0_4 (w 97).toNatClampNeg).toInt64))) + ((xI μ r0_4 (w 111).toNatClampNeg).toInt64))) + ((xI μ r0_4 (w 110).toNatClampNeg).toInt64))) + ((xI μ r0_4 (w 121).toNatClampNeg).toInt64))) + ((xI μ r0_4 (w 107).toNatClampNeg).toInt64))) + ((xI μ r0 32).toInt64)) + (wl 1)), jk, .int ((((((wl 5) * (((wl 10) * (((wl 10) * (((wl 10) * (((wl 40) * (((wl 100) * ((xI μ r0_4 (w 109).toNatClampNeg).toInt64)) + ((xI μ r0_4 (w 97).toNatClampNeg).toInt64))) + ((xI μ r0_4 (w 111).toNatClampNeg).toInt64))) + ((xI μ r0_4 (w 110).toNatClampNeg).toInt64))) + ((xI μ r0_4 (w 121).toNatClampNeg).toInt64))) + ((xI μ r0_4 (w 107).toNatClampNeg).toInt64))) + ((xI μ r0 32).toInt64)) + (wl 1)) - ((((wl 5) * (((wl 10) * (((wl 10) * (((wl 10) * (((wl 40) * (((wl 100) * ((xI μ r0_4 (w 109).toNatClampNeg).toInt64)) + ((xI μ r0_4 (w 97).toNatClampNeg).toInt64))) + ((xI μ r0_4 (w 111).toNatClampNeg).toInt64))) + ((xI μ r0_4 (w 110).toNatClampNeg).toInt64))) + ((xI μ r0_4 (w 121).toNatClampNeg).toInt64))) + ((xI μ r0_4 (w 107).toNatClampNeg).toInt64))) + ((xI μ r0 32).toInt64)) + (wl 1)) / (wl 8191) * (wl 8191)).toInt32)] [.int (lg_cmp (xL μ r0_34 ((((((wl 5) * (((wl 10) * (((wl 10) * (((wl 10) * (((wl 40) * (((wl 100) * ((xI μ r0_4 (w 109).toNatClampNeg).toInt64)) + ((xI μ r0_4 (w 97).toNatClampNeg).toInt64))) + ((xI μ r0_4 (w 111).toNatClampNeg).toInt64))) + ((xI μ r0_4 (w 110).toNatClampNeg).toInt64))) + ((xI μ r0_4 (w 121).toNatClampNeg).toInt64))) + ((xI μ r0_4 (w 107).toNatClampNeg).toInt64))) + ((xI μ r0 32).toInt64)) + (wl 1)) - ((((wl 5) * (((wl 10) * (((wl 10) * (((wl 10) * (((wl 40) * (((wl 100) * ((xI μ r0_4 (w 109).toNatClampNeg).toInt64)) + ((xI μ r0_4 (w 97).toNatClampNeg).toInt64))) + ((xI μ r0_4 (w 111).toNatClampNeg).toInt64))) + ((xI μ r0_4 (w 110).toNatClampNeg).toInt64))) + ((xI μ r0_4 (w 121).toNatClampNeg).toInt64))) + ((xI μ r0_4 (w 107).toNatClampNeg).toInt64))) + ((xI μ r0 32).toInt64)) + (wl 1)) / (wl 8191) * (wl 8191)).toInt32).toNatClampNeg) ((((wl 5) * (((wl 10) * (((wl 10) * (((wl 10) * (((wl 40) * (((wl 100) * ((xI μ r0_4 (w 109).toNatClampNeg).toInt64)) + ((xI μ r0_4 (w 97).toNatClampNeg).toInt64))) + ((xI μ r0_4 (w 111).toNatClampNeg).toInt64))) + ((xI μ r0_4 (w 110).toNatClampNeg).toInt64))) + ((xI μ r0_4 (w 121).toNatClampNeg).toInt64))) + ((xI μ r0_4 (w 107).toNatClampNeg).toInt64))) + ((xI μ r0 32).toInt64)) + (wl 1)))] μ
  refine g_ifz_ne (pc' := 123) (off := 10) (by decide) (by decide +kernel) (fun hc => ?_) (fun hc => ?_)
  · replace h := h.2 hc
    show G Γ m_MO_worthNow (d + 1) (0, 0) Q 123 [.ref r0, .long ((((wl 5) * (((wl 10) * (((wl 10) * (((wl 10) * (((wl 40) * (((wl 100) * ((xI μ r0_4 (w 109).toNatClampNeg).toInt64)) + ((xI μ r0_4 (w 97).toNatClampNeg).toInt64))) + ((xI μ r0_4 (w 111).toNatClampNeg).toInt64))) + ((xI μ r0_4 (w 110).toNatClampNeg).toInt64))) + ((xI μ r0_4 (w 121).toNatClampNeg).toInt64))) + ((xI μ r0_4 (w 107).toNatClampNeg).toInt64))) + ((xI μ r0 32).toInt64)) + (wl 1)), jk, .int ((((((wl 5) * (((wl 10) * (((wl 10) * (((wl 10) * (((wl 40) * (((wl 100) * ((xI μ r0_4 (w 109).toNatClampNeg).toInt64)) + ((xI μ r0_4 (w 97).toNatClampNeg).toInt64))) + ((xI μ r0_4 (w 111).toNatClampNeg).toInt64))) + ((xI μ r0_4 (w 110).toNatClampNeg).toInt64))) + ((xI μ r0_4 (w 121).toNatClampNeg).toInt64))) + ((xI μ r0_4 (w 107).toNatClampNeg).toInt64))) + ((xI μ r0 32).toInt64)) + (wl 1)) - ((((wl 5) * (((wl 10) * (((wl 10) * (((wl 10) * (((wl 40) * (((wl 100) * ((xI μ r0_4 (w 109).toNatClampNeg).toInt64)) + ((xI μ r0_4 (w 97).toNatClampNeg).toInt64))) + ((xI μ r0_4 (w 111).toNatClampNeg).toInt64))) + ((xI μ r0_4 (w 110).toNatClampNeg).toInt64))) + ((xI μ r0_4 (w 121).toNatClampNeg).toInt64))) + ((xI μ r0_4 (w 107).toNatClampNeg).toInt64))) + ((xI μ r0 32).toInt64)) + (wl 1)) / (wl 8191) * (wl 8191)).toInt32)] [] μ
    obtain ⟨ib9, h⟩ := h
    refine run_ok (pc' := 145) [(.aload_n 0, 0, 0, 0), (.aload_n 0, 0, 0, 0), (.getfield 13, 11, 2, 2), (.sipush 240, 0, 0, 0), (.aload_n 0, 0, 0, 0), (.getfield 64, 11, 32, 0), (.imul, 0, 0, 0), (.aload_n 0, 0, 0, 0), (.getfield 16, 11, 3, 2), (.aload_n 0, 0, 0, 0), (.getfield 64, 11, 32, 0), (.iaload, 0, 0, 0)] _ _ _ _ (by decide +kernel) ?_
    show _ ∧ (∃ _, _ ∧ (_ ∧ (_ ∧ (∃ _, _ ∧ (_ ∧ (_ ∧ (_)))))))
    refine ⟨o_r0_11, r0_2, e_r0_2, o_r0_11, o_r0_11, r0_3, e_r0_3, o_r0_11, ib9, ?_⟩
    show G Γ m_MO_worthNow (d + 1) (0, 0) Q 145 [.ref r0, .long ((((wl 5) * (((wl 10) * (((wl 10) * (((wl 10) * (((wl 40) * (((wl 100) * ((xI μ r0_4 (w 109).toNatClampNeg).toInt64)) + ((xI μ r0_4 (w 97).toNatClampNeg).toInt64))) + ((xI μ r0_4 (w 111).toNatClampNeg).toInt64))) + ((xI μ r0_4 (w 110).toNatClampNeg).toInt64))) + ((xI μ r0_4 (w 121).toNatClampNeg).toInt64))) + ((xI μ r0_4 (w 107).toNatClampNeg).toInt64))) + ((xI μ r0 32).toInt64)) + (wl 1)), jk, .int ((((((wl 5) * (((wl 10) * (((wl 10) * (((wl 10) * (((wl 40) * (((wl 100) * ((xI μ r0_4 (w 109).toNatClampNeg).toInt64)) + ((xI μ r0_4 (w 97).toNatClampNeg).toInt64))) + ((xI μ r0_4 (w 111).toNatClampNeg).toInt64))) + ((xI μ r0_4 (w 110).toNatClampNeg).toInt64))) + ((xI μ r0_4 (w 121).toNatClampNeg).toInt64))) + ((xI μ r0_4 (w 107).toNatClampNeg).toInt64))) + ((xI μ r0 32).toInt64)) + (wl 1)) - ((((wl 5) * (((wl 10) * (((wl 10) * (((wl 10) * (((wl 40) * (((wl 100) * ((xI μ r0_4 (w 109).toNatClampNeg).toInt64)) + ((xI μ r0_4 (w 97).toNatClampNeg).toInt64))) + ((xI μ r0_4 (w 111).toNatClampNeg).toInt64))) + ((xI μ r0_4 (w 110).toNatClampNeg).toInt64))) + ((xI μ r0_4 (w 121).toNatClampNeg).toInt64))) + ((xI μ r0_4 (w 107).toNatClampNeg).toInt64))) + ((xI μ r0 32).toInt64)) + (wl 1)) / (wl 8191) * (wl 8191)).toInt32)] [.int (xI μ r0_3 (xI μ r0 32).toNatClampNeg), .int ((w 240) * (xI μ r0 32)), .ref r0_2, .ref r0] μ
    refine g_invV (M' := m_MO_goThrough) (b1 := 0) (b2 := 0) (As := [.ref r0_2, .int ((w 240) * (xI μ r0 32)), .int (xI μ r0_3 (xI μ r0 32).toNatClampNeg)]) (a := r0) (st := []) lk_11_293 (by decide +kernel) rfl (dk_MO_goThrough d) (Nat.le_of_ble_eq_true rfl) (Or.inl ⟨11, o_r0_11, rfl⟩) h ?_
    rintro _ μ10 ⟨rfl, h⟩ hn10
    show G Γ m_MO_worthNow (d + 1) (0, 0) Q 148 [.ref r0, .long ((((wl 5) * (((wl 10) * (((wl 10) * (((wl 10) * (((wl 40) * (((wl 100) * ((xI μ r0_4 (w 109).toNatClampNeg).toInt64)) + ((xI μ r0_4 (w 97).toNatClampNeg).toInt64))) + ((xI μ r0_4 (w 111).toNatClampNeg).toInt64))) + ((xI μ r0_4 (w 110).toNatClampNeg).toInt64))) + ((xI μ r0_4 (w 121).toNatClampNeg).toInt64))) + ((xI μ r0_4 (w 107).toNatClampNeg).toInt64))) + ((xI μ r0 32).toInt64)) + (wl 1)), jk, .int ((((((wl 5) * (((wl 10) * (((wl 10) * (((wl 10) * (((wl 40) * (((wl 100) * ((xI μ r0_4 (w 109).toNatClampNeg).toInt64)) + ((xI μ r0_4 (w 97).toNatClampNeg).toInt64))) + ((xI μ r0_4 (w 111).toNatClampNeg).toInt64))) + ((xI μ r0_4 (w 110).toNatClampNeg).toInt64))) + ((xI μ r0_4 (w 121).toNatClampNeg).toInt64))) + ((xI μ r0_4 (w 107).toNatClampNeg).toInt64))) + ((xI μ r0 32).toInt64)) + (wl 1)) - ((((wl 5) * (((wl 10) * (((wl 10) * (((wl 10) * (((wl 40) * (((wl 100) * ((xI μ r0_4 (w 109).toNatClampNeg).toInt64)) + ((xI μ r0_4 (w 97).toNatClampNeg).toInt64))) + ((xI μ r0_4 (w 111).toNatClampNeg).toInt64))) + ((xI μ r0_4 (w 110).toNatClampNeg).toInt64))) + ((xI μ r0_4 (w 121).toNatClampNeg).toInt64))) + ((xI μ r0_4 (w 107).toNatClampNeg).toInt64))) + ((xI μ r0 32).toInt64)) + (wl 1)) / (wl 8191) * (wl 8191)).toInt32)] [] μ10
    obtain ⟨ea11, h⟩ := h
    obtain ⟨is12, h⟩ := h
    refine run_ok (pc' := 155) [(.aload_n 0, 0, 0, 0), (.getfield 71, 11, 34, 2), (.iload_n 3, 0, 0, 0), (.lload_n 1, 0, 0, 0), (.lastore, 0, 0, 0)] _ _ _ _ (by decide +kernel) ?_
    show _ ∧ (∃ _, _ ∧ (_ ∧ (_)))
    refine ⟨((o_r0_11).mono hn10), r0_34, ea11, is12, ?_⟩
    show G Γ m_MO_worthNow (d + 1) (0, 0) Q 155 [.ref r0, .long ((((wl 5) * (((wl 10) * (((wl 10) * (((wl 10) * (((wl 40) * (((wl 100) * ((xI μ r0_4 (w 109).toNatClampNeg).toInt64)) + ((xI μ r0_4 (w 97).toNatClampNeg).toInt64))) + ((xI μ r0_4 (w 111).toNatClampNeg).toInt64))) + ((xI μ r0_4 (w 110).toNatClampNeg).toInt64))) + ((xI μ r0_4 (w 121).toNatClampNeg).toInt64))) + ((xI μ r0_4 (w 107).toNatClampNeg).toInt64))) + ((xI μ r0 32).toInt64)) + (wl 1)), jk, .int ((((((wl 5) * (((wl 10) * (((wl 10) * (((wl 10) * (((wl 40) * (((wl 100) * ((xI μ r0_4 (w 109).toNatClampNeg).toInt64)) + ((xI μ r0_4 (w 97).toNatClampNeg).toInt64))) + ((xI μ r0_4 (w 111).toNatClampNeg).toInt64))) + ((xI μ r0_4 (w 110).toNatClampNeg).toInt64))) + ((xI μ r0_4 (w 121).toNatClampNeg).toInt64))) + ((xI μ r0_4 (w 107).toNatClampNeg).toInt64))) + ((xI μ r0 32).toInt64)) + (wl 1)) - ((((wl 5) * (((wl 10) * (((wl 10) * (((wl 10) * (((wl 40) * (((wl 100) * ((xI μ r0_4 (w 109).toNatClampNeg).toInt64)) + ((xI μ r0_4 (w 97).toNatClampNeg).toInt64))) + ((xI μ r0_4 (w 111).toNatClampNeg).toInt64))) + ((xI μ r0_4 (w 110).toNatClampNeg).toInt64))) + ((xI μ r0_4 (w 121).toNatClampNeg).toInt64))) + ((xI μ r0_4 (w 107).toNatClampNeg).toInt64))) + ((xI μ r0 32).toInt64)) + (wl 1)) / (wl 8191) * (wl 8191)).toInt32)] [] (sL μ10 r0_34 ((((((wl 5) * (((wl 10) * (((wl 10) * (((wl 10) * (((wl 40) * (((wl 100) * ((xI μ r0_4 (w 109).toNatClampNeg).toInt64)) + ((xI μ r0_4 (w 97).toNatClampNeg).toInt64))) + ((xI μ r0_4 (w 111).toNatClampNeg).toInt64))) + ((xI μ r0_4 (w 110).toNatClampNeg).toInt64))) + ((xI μ r0_4 (w 121).toNatClampNeg).toInt64))) + ((xI μ r0_4 (w 107).toNatClampNeg).toInt64))) + ((xI μ r0 32).toInt64)) + (wl 1)) - ((((wl 5) * (((wl 10) * (((wl 10) * (((wl 10) * (((wl 40) * (((wl 100) * ((xI μ r0_4 (w 109).toNatClampNeg).toInt64)) + ((xI μ r0_4 (w 97).toNatClampNeg).toInt64))) + ((xI μ r0_4 (w 111).toNatClampNeg).toInt64))) + ((xI μ r0_4 (w 110).toNatClampNeg).toInt64))) + ((xI μ r0_4 (w 121).toNatClampNeg).toInt64))) + ((xI μ r0_4 (w 107).toNatClampNeg).toInt64))) + ((xI μ r0 32).toInt64)) + (wl 1)) / (wl 8191) * (wl 8191)).toInt32).toNatClampNeg ((((wl 5) * (((wl 10) * (((wl 10) * (((wl 10) * (((wl 40) * (((wl 100) * ((xI μ r0_4 (w 109).toNatClampNeg).toInt64)) + ((xI μ r0_4 (w 97).toNatClampNeg).toInt64))) + ((xI μ r0_4 (w 111).toNatClampNeg).toInt64))) + ((xI μ r0_4 (w 110).toNatClampNeg).toInt64))) + ((xI μ r0_4 (w 121).toNatClampNeg).toInt64))) + ((xI μ r0_4 (w 107).toNatClampNeg).toInt64))) + ((xI μ r0 32).toInt64)) + (wl 1)))
    obtain ⟨μ13, em13⟩ : ∃ m : XM, m = sL μ10 r0_34 ((((((wl 5) * (((wl 10) * (((wl 10) * (((wl 10) * (((wl 40) * (((wl 100) * ((xI μ r0_4 (w 109).toNatClampNeg).toInt64)) + ((xI μ r0_4 (w 97).toNatClampNeg).toInt64))) + ((xI μ r0_4 (w 111).toNatClampNeg).toInt64))) + ((xI μ r0_4 (w 110).toNatClampNeg).toInt64))) + ((xI μ r0_4 (w 121).toNatClampNeg).toInt64))) + ((xI μ r0_4 (w 107).toNatClampNeg).toInt64))) + ((xI μ r0 32).toInt64)) + (wl 1)) - ((((wl 5) * (((wl 10) * (((wl 10) * (((wl 10) * (((wl 40) * (((wl 100) * ((xI μ r0_4 (w 109).toNatClampNeg).toInt64)) + ((xI μ r0_4 (w 97).toNatClampNeg).toInt64))) + ((xI μ r0_4 (w 111).toNatClampNeg).toInt64))) + ((xI μ r0_4 (w 110).toNatClampNeg).toInt64))) + ((xI μ r0_4 (w 121).toNatClampNeg).toInt64))) + ((xI μ r0_4 (w 107).toNatClampNeg).toInt64))) + ((xI μ r0 32).toInt64)) + (wl 1)) / (wl 8191) * (wl 8191)).toInt32).toNatClampNeg ((((wl 5) * (((wl 10) * (((wl 10) * (((wl 10) * (((wl 40) * (((wl 100) * ((xI μ r0_4 (w 109).toNatClampNeg).toInt64)) + ((xI μ r0_4 (w 97).toNatClampNeg).toInt64))) + ((xI μ r0_4 (w 111).toNatClampNeg).toInt64))) + ((xI μ r0_4 (w 110).toNatClampNeg).toInt64))) + ((xI μ r0_4 (w 121).toNatClampNeg).toInt64))) + ((xI μ r0_4 (w 107).toNatClampNeg).toInt64))) + ((xI μ r0 32).toInt64)) + (wl 1)) := ⟨_, rfl⟩
    replace h := h μ13 em13
    have hm13 : xN μ10 ≤ xN μ13 := by rw [em13]; exact Nat.le_refl _
    rw [← em13]
    obtain ⟨a14, ea14, h⟩ := h
    obtain ⟨is15, h⟩ := h
    refine run_ok (pc' := 165) [(.aload_n 0, 0, 0, 0), (.getfield 75, 11, 35, 2), (.iload_n 3, 0, 0, 0), (.aload_n 0, 0, 0, 0), (.getfield 217, 11, 14, 0), (.iastore, 0, 0, 0)] _ _ _ _ (by decide +kernel) ?_
    show _ ∧ (∃ _, _ ∧ (_ ∧ (_ ∧ (_))))
    refine ⟨(((o_r0_11).mono hn10).mono hm13), a14, ea14, (((o_r0_11).mono hn10).mono hm13), is15, ?_⟩
    show G Γ m_MO_worthNow (d + 1) (0, 0) Q 165 [.ref r0, .long ((((wl 5) * (((wl 10) * (((wl 10) * (((wl 10) * (((wl 40) * (((wl 100) * ((xI μ r0_4 (w 109).toNatClampNeg).toInt64)) + ((xI μ r0_4 (w 97).toNatClampNeg).toInt64))) + ((xI μ r0_4 (w 111).toNatClampNeg).toInt64))) + ((xI μ r0_4 (w 110).toNatClampNeg).toInt64))) + ((xI μ r0_4 (w 121).toNatClampNeg).toInt64))) + ((xI μ r0_4 (w 107).toNatClampNeg).toInt64))) + ((xI μ r0 32).toInt64)) + (wl 1)), jk, .int ((((((wl 5) * (((wl 10) * (((wl 10) * (((wl 10) * (((wl 40) * (((wl 100) * ((xI μ r0_4 (w 109).toNatClampNeg).toInt64)) + ((xI μ r0_4 (w 97).toNatClampNeg).toInt64))) + ((xI μ r0_4 (w 111).toNatClampNeg).toInt64))) + ((xI μ r0_4 (w 110).toNatClampNeg).toInt64))) + ((xI μ r0_4 (w 121).toNatClampNeg).toInt64))) + ((xI μ r0_4 (w 107).toNatClampNeg).toInt64))) + ((xI μ r0 32).toInt64)) + (wl 1)) - ((((wl 5) * (((wl 10) * (((wl 10) * (((wl 10) * (((wl 40) * (((wl 100) * ((xI μ r0_4 (w 109).toNatClampNeg).toInt64)) + ((xI μ r0_4 (w 97).toNatClampNeg).toInt64))) + ((xI μ r0_4 (w 111).toNatClampNeg).toInt64))) + ((xI μ r0_4 (w 110).toNatClampNeg).toInt64))) + ((xI μ r0_4 (w 121).toNatClampNeg).toInt64))) + ((xI μ r0_4 (w 107).toNatClampNeg).toInt64))) + ((xI μ r0 32).toInt64)) + (wl 1)) / (wl 8191) * (wl 8191)).toInt32)] [] (sI μ13 a14 ((((((wl 5) * (((wl 10) * (((wl 10) * (((wl 10) * (((wl 40) * (((wl 100) * ((xI μ r0_4 (w 109).toNatClampNeg).toInt64)) + ((xI μ r0_4 (w 97).toNatClampNeg).toInt64))) + ((xI μ r0_4 (w 111).toNatClampNeg).toInt64))) + ((xI μ r0_4 (w 110).toNatClampNeg).toInt64))) + ((xI μ r0_4 (w 121).toNatClampNeg).toInt64))) + ((xI μ r0_4 (w 107).toNatClampNeg).toInt64))) + ((xI μ r0 32).toInt64)) + (wl 1)) - ((((wl 5) * (((wl 10) * (((wl 10) * (((wl 10) * (((wl 40) * (((wl 100) * ((xI μ r0_4 (w 109).toNatClampNeg).toInt64)) + ((xI μ r0_4 (w 97).toNatClampNeg).toInt64))) + ((xI μ r0_4 (w 111).toNatClampNeg).toInt64))) + ((xI μ r0_4 (w 110).toNatClampNeg).toInt64))) + ((xI μ r0_4 (w 121).toNatClampNeg).toInt64))) + ((xI μ r0_4 (w 107).toNatClampNeg).toInt64))) + ((xI μ r0 32).toInt64)) + (wl 1)) / (wl 8191) * (wl 8191)).toInt32).toNatClampNeg (xI μ13 r0 14))
    obtain ⟨μ16, em16⟩ : ∃ m : XM, m = sI μ13 a14 ((((((wl 5) * (((wl 10) * (((wl 10) * (((wl 10) * (((wl 40) * (((wl 100) * ((xI μ r0_4 (w 109).toNatClampNeg).toInt64)) + ((xI μ r0_4 (w 97).toNatClampNeg).toInt64))) + ((xI μ r0_4 (w 111).toNatClampNeg).toInt64))) + ((xI μ r0_4 (w 110).toNatClampNeg).toInt64))) + ((xI μ r0_4 (w 121).toNatClampNeg).toInt64))) + ((xI μ r0_4 (w 107).toNatClampNeg).toInt64))) + ((xI μ r0 32).toInt64)) + (wl 1)) - ((((wl 5) * (((wl 10) * (((wl 10) * (((wl 10) * (((wl 40) * (((wl 100) * ((xI μ r0_4 (w 109).toNatClampNeg).toInt64)) + ((xI μ r0_4 (w 97).toNatClampNeg).toInt64))) + ((xI μ r0_4 (w 111).toNatClampNeg).toInt64))) + ((xI μ r0_4 (w 110).toNatClampNeg).toInt64))) + ((xI μ r0_4 (w 121).toNatClampNeg).toInt64))) + ((xI μ r0_4 (w 107).toNatClampNeg).toInt64))) + ((xI μ r0 32).toInt64)) + (wl 1)) / (wl 8191) * (wl 8191)).toInt32).toNatClampNeg (xI μ13 r0 14) := ⟨_, rfl⟩
    replace h := h μ16 em16
    have hm16 : xN μ13 ≤ xN μ16 := by rw [em16]; exact Nat.le_refl _
    rw [← em16]
    refine run_ok (pc' := 169) [(.aload_n 0, 0, 0, 0), (.getfield 217, 11, 14, 0)] _ _ _ _ (by decide +kernel) ?_
    show _ ∧ (_)
    refine ⟨((((o_r0_11).mono hn10).mono hm13).mono hm16), ?_⟩
    show G Γ m_MO_worthNow (d + 1) (0, 0) Q 169 [.ref r0, .long ((((wl 5) * (((wl 10) * (((wl 10) * (((wl 10) * (((wl 40) * (((wl 100) * ((xI μ r0_4 (w 109).toNatClampNeg).toInt64)) + ((xI μ r0_4 (w 97).toNatClampNeg).toInt64))) + ((xI μ r0_4 (w 111).toNatClampNeg).toInt64))) + ((xI μ r0_4 (w 110).toNatClampNeg).toInt64))) + ((xI μ r0_4 (w 121).toNatClampNeg).toInt64))) + ((xI μ r0_4 (w 107).toNatClampNeg).toInt64))) + ((xI μ r0 32).toInt64)) + (wl 1)), jk, .int ((((((wl 5) * (((wl 10) * (((wl 10) * (((wl 10) * (((wl 40) * (((wl 100) * ((xI μ r0_4 (w 109).toNatClampNeg).toInt64)) + ((xI μ r0_4 (w 97).toNatClampNeg).toInt64))) + ((xI μ r0_4 (w 111).toNatClampNeg).toInt64))) + ((xI μ r0_4 (w 110).toNatClampNeg).toInt64))) + ((xI μ r0_4 (w 121).toNatClampNeg).toInt64))) + ((xI μ r0_4 (w 107).toNatClampNeg).toInt64))) + ((xI μ r0 32).toInt64)) + (wl 1)) - ((((wl 5) * (((wl 10) * (((wl 10) * (((wl 10) * (((wl 40) * (((wl 100) * ((xI μ r0_4 (w 109).toNatClampNeg).toInt64)) + ((xI μ r0_4 (w 97).toNatClampNeg).toInt64))) + ((xI μ r0_4 (w 111).toNatClampNeg).toInt64))) + ((xI μ r0_4 (w 110).toNatClampNeg).toInt64))) + ((xI μ r0_4 (w 121).toNatClampNeg).toInt64))) + ((xI μ r0_4 (w 107).toNatClampNeg).toInt64))) + ((xI μ r0 32).toInt64)) + (wl 1)) / (wl 8191) * (wl 8191)).toInt32)] [.int (xI μ16 r0 14)] μ16
    exact g_reti (by decide +kernel) rfl h
  · replace h := h.1 hc
    show G Γ m_MO_worthNow (d + 1) (0, 0) Q 116 [.ref r0, .long ((((wl 5) * (((wl 10) * (((wl 10) * (((wl 10) * (((wl 40) * (((wl 100) * ((xI μ r0_4 (w 109).toNatClampNeg).toInt64)) + ((xI μ r0_4 (w 97).toNatClampNeg).toInt64))) + ((xI μ r0_4 (w 111).toNatClampNeg).toInt64))) + ((xI μ r0_4 (w 110).toNatClampNeg).toInt64))) + ((xI μ r0_4 (w 121).toNatClampNeg).toInt64))) + ((xI μ r0_4 (w 107).toNatClampNeg).toInt64))) + ((xI μ r0 32).toInt64)) + (wl 1)), jk, .int ((((((wl 5) * (((wl 10) * (((wl 10) * (((wl 10) * (((wl 40) * (((wl 100) * ((xI μ r0_4 (w 109).toNatClampNeg).toInt64)) + ((xI μ r0_4 (w 97).toNatClampNeg).toInt64))) + ((xI μ r0_4 (w 111).toNatClampNeg).toInt64))) + ((xI μ r0_4 (w 110).toNatClampNeg).toInt64))) + ((xI μ r0_4 (w 121).toNatClampNeg).toInt64))) + ((xI μ r0_4 (w 107).toNatClampNeg).toInt64))) + ((xI μ r0 32).toInt64)) + (wl 1)) - ((((wl 5) * (((wl 10) * (((wl 10) * (((wl 10) * (((wl 40) * (((wl 100) * ((xI μ r0_4 (w 109).toNatClampNeg).toInt64)) + ((xI μ r0_4 (w 97).toNatClampNeg).toInt64))) + ((xI μ r0_4 (w 111).toNatClampNeg).toInt64))) + ((xI μ r0_4 (w 110).toNatClampNeg).toInt64))) + ((xI μ r0_4 (w 121).toNatClampNeg).toInt64))) + ((xI μ r0_4 (w 107).toNatClampNeg).toInt64))) + ((xI μ r0 32).toInt64)) + (wl 1)) / (wl 8191) * (wl 8191)).toInt32)] [] μ
    obtain ⟨ib17, h⟩ := h
    refine run_ok (pc' := 122) [(.aload_n 0, 0, 0, 0), (.getfield 75, 11, 35, 2), (.iload_n 3, 0, 0, 0), (.iaload, 0, 0, 0)] _ _ _ _ (by decide +kernel) ?_
    show _ ∧ (∃ _, _ ∧ (_ ∧ (_)))
    refine ⟨o_r0_11, r0_35, e_r0_35, ib17, ?_⟩
    show G Γ m_MO_worthNow (d + 1) (0, 0) Q 122 [.ref r0, .long ((((wl 5) * (((wl 10) * (((wl 10) * (((wl 10) * (((wl 40) * (((wl 100) * ((xI μ r0_4 (w 109).toNatClampNeg).toInt64)) + ((xI μ r0_4 (w 97).toNatClampNeg).toInt64))) + ((xI μ r0_4 (w 111).toNatClampNeg).toInt64))) + ((xI μ r0_4 (w 110).toNatClampNeg).toInt64))) + ((xI μ r0_4 (w 121).toNatClampNeg).toInt64))) + ((xI μ r0_4 (w 107).toNatClampNeg).toInt64))) + ((xI μ r0 32).toInt64)) + (wl 1)), jk, .int ((((((wl 5) * (((wl 10) * (((wl 10) * (((wl 10) * (((wl 40) * (((wl 100) * ((xI μ r0_4 (w 109).toNatClampNeg).toInt64)) + ((xI μ r0_4 (w 97).toNatClampNeg).toInt64))) + ((xI μ r0_4 (w 111).toNatClampNeg).toInt64))) + ((xI μ r0_4 (w 110).toNatClampNeg).toInt64))) + ((xI μ r0_4 (w 121).toNatClampNeg).toInt64))) + ((xI μ r0_4 (w 107).toNatClampNeg).toInt64))) + ((xI μ r0 32).toInt64)) + (wl 1)) - ((((wl 5) * (((wl 10) * (((wl 10) * (((wl 10) * (((wl 40) * (((wl 100) * ((xI μ r0_4 (w 109).toNatClampNeg).toInt64)) + ((xI μ r0_4 (w 97).toNatClampNeg).toInt64))) + ((xI μ r0_4 (w 111).toNatClampNeg).toInt64))) + ((xI μ r0_4 (w 110).toNatClampNeg).toInt64))) + ((xI μ r0_4 (w 121).toNatClampNeg).toInt64))) + ((xI μ r0_4 (w 107).toNatClampNeg).toInt64))) + ((xI μ r0 32).toInt64)) + (wl 1)) / (wl 8191) * (wl 8191)).toInt32)] [.int (xI μ r0_35 ((((((wl 5) * (((wl 10) * (((wl 10) * (((wl 10) * (((wl 40) * (((wl 100) * ((xI μ r0_4 (w 109).toNatClampNeg).toInt64)) + ((xI μ r0_4 (w 97).toNatClampNeg).toInt64))) + ((xI μ r0_4 (w 111).toNatClampNeg).toInt64))) + ((xI μ r0_4 (w 110).toNatClampNeg).toInt64))) + ((xI μ r0_4 (w 121).toNatClampNeg).toInt64))) + ((xI μ r0_4 (w 107).toNatClampNeg).toInt64))) + ((xI μ r0 32).toInt64)) + (wl 1)) - ((((wl 5) * (((wl 10) * (((wl 10) * (((wl 10) * (((wl 40) * (((wl 100) * ((xI μ r0_4 (w 109).toNatClampNeg).toInt64)) + ((xI μ r0_4 (w 97).toNatClampNeg).toInt64))) + ((xI μ r0_4 (w 111).toNatClampNeg).toInt64))) + ((xI μ r0_4 (w 110).toNatClampNeg).toInt64))) + ((xI μ r0_4 (w 121).toNatClampNeg).toInt64))) + ((xI μ r0_4 (w 107).toNatClampNeg).toInt64))) + ((xI μ r0 32).toInt64)) + (wl 1)) / (wl 8191) * (wl 8191)).toInt32).toNatClampNeg)] μ
    exact g_reti (by decide +kernel) rfl h
/-! FrostBoxModel valueOn([IIII)I -/
set_option maxRecDepth 100000 in
theorem lk_11_342 : LkV 11 342 m_MO_portionOf 5 := ⟨lc_MO_portionOf, lwG_in (List.mem_of_getElem? (i := 1621) rfl) rfl, lwG_in (List.mem_of_getElem? (i := 1623) rfl) rfl, lwG_in (List.mem_of_getElem? (i := 80) rfl) rfl⟩
set_option maxRecDepth 100000 in
theorem B_MO_valueOn_0 {Γ : XG} {d : Nat} {Q : Option Value → XM → Prop} {r0 r1 : Nat} {x2 x3 x4 : Int32} {μ : XM} (o_r0_11 : ob μ r0 11) (h : inb μ 0 r1 (((w 5) * x2) + (w 1)) ∧ inb μ 0 r1 (((w 5) * x2) + (w 0)) ∧ inb μ 0 r1 (((w 5) * x2) + (w 1)) ∧ inb μ 0 r1 (((w 5) * x2) + (w 2)) ∧ inb μ 0 r1 (w 41) ∧ Call Γ m_MO_portionOf d [.ref r0, .int (xI μ r1 (((w 5) * x2) + (w 0)).toNatClampNeg), .int (xI μ r1 (((w 5) * x2) + (w 1)).toNatClampNeg), .int (jmin (w 99) ((xI μ r1 (((w 5) * x2) + (w 2)).toNatClampNeg) + x4)), .int x3, .int ((xI μ r1 (w 41).toNatClampNeg) + x4)] μ (KI (fun v6 μ6 => Q (some (.int ((xI μ r1 (((w 5) * x2) + (w 1)).toNatClampNeg) * v6))) μ6))) : G Γ m_MO_valueOn (d + 1) (0, 0) Q 0 [.ref r0, .ref r1, .int x2, .int x3, .int x4] [] μ := by
  obtain ⟨ib1, h⟩ := h
  obtain ⟨ib2, h⟩ := h
  obtain ⟨ib3, h⟩ := h
  obtain ⟨ib4, h⟩ := h
  refine run_ok (pc' := 35) [(.iconst 5, 0, 0, 0), (.iload_n 2, 0, 0, 0), (.imul, 0, 0, 0), (.istore 5, 0, 0, 0), (.aload_n 1, 0, 0, 0), (.iload 5, 0, 0, 0), (.iconst 1, 0, 0, 0), (.iadd, 0, 0, 0), (.iaload, 0, 0, 0), (.aload_n 0, 0, 0, 0), (.aload_n 1, 0, 0, 0), (.iload 5, 0, 0, 0), (.iconst 0, 0, 0, 0), (.iadd, 0, 0, 0), (.iaload, 0, 0, 0), (.aload_n 1, 0, 0, 0), (.iload 5, 0, 0, 0), (.iconst 1, 0, 0, 0), (.iadd, 0, 0, 0), (.iaload, 0, 0, 0), (.bipush 99, 0, 0, 0), (.aload_n 1, 0, 0, 0), (.iload 5, 0, 0, 0), (.iconst 2, 0, 0, 0), (.iadd, 0, 0, 0), (.iaload, 0, 0, 0), (.iload 4, 0, 0, 0), (.iadd, 0, 0, 0)] _ _ _ _ (by decide +kernel) ?_
  show _ ∧ (_ ∧ (_ ∧ (_ ∧ (_))))
  refine ⟨ib1, ib2, ib3, ib4, ?_⟩
  show G Γ m_MO_valueOn (d + 1) (0, 0) Q 35 [.ref r0, .ref r1, .int x2, .int x3, .int x4, .int ((w 5) * x2)] [.int ((xI μ r1 (((w 5) * x2) + (w 2)).toNatClampNeg) + x4), .int (w 99), .int (xI μ r1 (((w 5) * x2) + (w 1)).toNatClampNeg), .int (xI μ r1 (((w 5) * x2) + (w 0)).toNatClampNeg), .ref r0, .int (xI μ r1 (((w 5) * x2) + (w 1)).toNatClampNeg)] μ
  refine g_minI (i := 330) lm_11_330 (Nat.le_of_ble_eq_true rfl) (by decide +kernel) ?_
  show G Γ m_MO_valueOn (d + 1) (0, 0) Q 38 [.ref r0, .ref r1, .int x2, .int x3, .int x4, .int ((w 5) * x2)] [.int (jmin (w 99) ((xI μ r1 (((w 5) * x2) + (w 2)).toNatClampNeg) + x4)), .int (xI μ r1 (((w 5) * x2) + (w 1)).toNatClampNeg), .int (xI μ r1 (((w 5) * x2) + (w 0)).toNatClampNeg), .ref r0, .int (xI μ r1 (((w 5) * x2) + (w 1)).toNatClampNeg)] μ
  obtain ⟨ib5, h⟩ := h
  refine run_ok (pc' := 46) [(.iload_n 3, 0, 0, 0), (.aload_n 1, 0, 0, 0), (.bipush 41, 0, 0, 0), (.iaload, 0, 0, 0), (.iload 4, 0, 0, 0), (.iadd, 0, 0, 0)] _ _ _ _ (by decide +kernel) ?_
  show _ ∧ (_)
  refine ⟨ib5, ?_⟩
  show G Γ m_MO_valueOn (d + 1) (0, 0) Q 46 [.ref r0, .ref r1, .int x2, .int x3, .int x4, .int ((w 5) * x2)] [.int ((xI μ r1 (w 41).toNatClampNeg) + x4), .int x3, .int (jmin (w 99) ((xI μ r1 (((w 5) * x2) + (w 2)).toNatClampNeg) + x4)), .int (xI μ r1 (((w 5) * x2) + (w 1)).toNatClampNeg), .int (xI μ r1 (((w 5) * x2) + (w 0)).toNatClampNeg), .ref r0, .int (xI μ r1 (((w 5) * x2) + (w 1)).toNatClampNeg)] μ
  refine g_invV (M' := m_MO_portionOf) (b1 := 0) (b2 := 0) (As := [.int (xI μ r1 (((w 5) * x2) + (w 0)).toNatClampNeg), .int (xI μ r1 (((w 5) * x2) + (w 1)).toNatClampNeg), .int (jmin (w 99) ((xI μ r1 (((w 5) * x2) + (w 2)).toNatClampNeg) + x4)), .int x3, .int ((xI μ r1 (w 41).toNatClampNeg) + x4)]) (a := r0) (st := [.int (xI μ r1 (((w 5) * x2) + (w 1)).toNatClampNeg)]) lk_11_342 (by decide +kernel) rfl (dk_MO_portionOf d) (Nat.le_of_ble_eq_true rfl) (Or.inl ⟨11, o_r0_11, rfl⟩) h ?_
  rintro _ μ6 ⟨v6, rfl, h⟩ hn6
  show G Γ m_MO_valueOn (d + 1) (0, 0) Q 49 [.ref r0, .ref r1, .int x2, .int x3, .int x4, .int ((w 5) * x2)] [.int v6, .int (xI μ r1 (((w 5) * x2) + (w 1)).toNatClampNeg)] μ6
  refine run_ok (pc' := 50) [(.imul, 0, 0, 0)] _ _ _ _ (by decide +kernel) ?_
  show G Γ m_MO_valueOn (d + 1) (0, 0) Q 50 [.ref r0, .ref r1, .int x2, .int x3, .int x4, .int ((w 5) * x2)] [.int ((xI μ r1 (((w 5) * x2) + (w 1)).toNatClampNeg) * v6)] μ6
  exact g_reti (by decide +kernel) rfl h
/-! FrostBoxModel valueOf([II)I -/
set_option maxRecDepth 100000 in
theorem lk_11_346 : LkV 11 346 m_MO_valueOn 4 := ⟨lc_MO_valueOn, lwG_in (List.mem_of_getElem? (i := 1616) rfl) rfl, lwG_in (List.mem_of_getElem? (i := 1618) rfl) rfl, lwG_in (List.mem_of_getElem? (i := 79) rfl) rfl⟩
set_option maxRecDepth 100000 in
theorem B_MO_valueOf_0 {Γ : XG} {d : Nat} {Q : Option Value → XM → Prop} {r0 r1 : Nat} {x2 : Int32} {μ : XM} (o_r0_11 : ob μ r0 11) (h : inb μ 0 r1 (w 40) ∧ Call Γ m_MO_valueOn d [.ref r0, .ref r1, .int x2, .int (((xI μ r1 (w 40).toNatClampNeg) - (w 1)) - x2), .int (w 0)] μ (KI (fun v2 μ2 => Q (some (.int v2)) μ2))) : G Γ m_MO_valueOf (d + 1) (0, 0) Q 0 [.ref r0, .ref r1, .int x2] [] μ := by
  obtain ⟨ib1, h⟩ := h
  refine run_ok (pc' := 12) [(.aload_n 0, 0, 0, 0), (.aload_n 1, 0, 0, 0), (.iload_n 2, 0, 0, 0), (.aload_n 1, 0, 0, 0), (.bipush 40, 0, 0, 0), (.iaload, 0, 0, 0), (.iconst 1, 0, 0, 0), (.isub, 0, 0, 0), (.iload_n 2, 0, 0, 0), (.isub, 0, 0, 0), (.iconst 0, 0, 0, 0)] _ _ _ _ (by decide +kernel) ?_
  show _ ∧ (_)
  refine ⟨ib1, ?_⟩
  show G Γ m_MO_valueOf (d + 1) (0, 0) Q 12 [.ref r0, .ref r1, .int x2] [.int (w 0), .int (((xI μ r1 (w 40).toNatClampNeg) - (w 1)) - x2), .int x2, .ref r1, .ref r0] μ
  refine g_invV (M' := m_MO_valueOn) (b1 := 0) (b2 := 0) (As := [.ref r1, .int x2, .int (((xI μ r1 (w 40).toNatClampNeg) - (w 1)) - x2), .int (w 0)]) (a := r0) (st := []) lk_11_346 (by decide +kernel) rfl (dk_MO_valueOn d) (Nat.le_of_ble_eq_true rfl) (Or.inl ⟨11, o_r0_11, rfl⟩) h ?_
  rintro _ μ2 ⟨v2, rfl, h⟩ hn2
  show G Γ m_MO_valueOf (d + 1) (0, 0) Q 15 [.ref r0, .ref r1, .int x2] [.int v2] μ2
  exact g_reti (by decide +kernel) rfl h
/-! FrostBoxModel sumIn([I)I -/
set_option maxRecDepth 100000 in
theorem B_MO_sumIn_0 {Γ : XG} {d : Nat} {Q : Option Value → XM → Prop} {r0 r1 : Nat} {μ : XM}  (h : G Γ m_MO_sumIn (d + 1) (0, 0) Q 4 [jk, .ref r1, .int (w 0), .int (w 0)] [] μ) : G Γ m_MO_sumIn (d + 1) (0, 0) Q 0 [.ref r0, .ref r1] [] μ := by
  refine run_ok (pc' := 4) [(.iconst 0, 0, 0, 0), (.istore_n 2, 0, 0, 0), (.iconst 0, 0, 0, 0), (.istore_n 3, 0, 0, 0)] _ _ _ _ (by decide +kernel) ?_
  show G Γ m_MO_sumIn (d + 1) (0, 0) Q 4 [.ref r0, .ref r1, .int (w 0), .int (w 0)] [] μ
  exact g_wk (ls' := [jk, .ref r1, .int (w 0), .int (w 0)]) ⟨Or.inl rfl, Or.inr rfl, Or.inr rfl, Or.inr rfl, trivial⟩ h
set_option maxRecDepth 100000 in
theorem B_MO_sumIn_4 {Γ : XG} {d : Nat} {Q : Option Value → XM → Prop} {r1 : Nat} {x2 x3 : Int32} {μ : XM}  (h : inb μ 0 r1 (w 40) ∧ ((x3 < xI μ r1 (w 40).toNatClampNeg → inb μ 0 r1 (((w 5) * x3) + (w 1)) ∧ G Γ m_MO_sumIn (d + 1) (0, 0) Q 4 [jk, .ref r1, .int (x2 + (xI μ r1 (((w 5) * x3) + (w 1)).toNatClampNeg)), .int (x3 + w 1)] [] μ) ∧ (¬ x3 < xI μ r1 (w 40).toNatClampNeg → Q (some (.int x2)) μ))) : G Γ m_MO_sumIn (d + 1) (0, 0) Q 4 [jk, .ref r1, .int x2, .int x3] [] μ := by
  obtain ⟨ib1, h⟩ := h
  refine run_ok (pc' := 9) [(.iload_n 3, 0, 0, 0), (.aload_n 1, 0, 0, 0), (.bipush 40, 0, 0, 0), (.iaload, 0, 0, 0)] _ _ _ _ (by decide +kernel) ?_
  show _ ∧ (_)
  refine ⟨ib1, ?_⟩
  show G Γ m_MO_sumIn (d + 1) (0, 0) Q 9 [jk, .ref r1, .int x2, .int x3] [.int (xI μ r1 (w 40).toNatClampNeg), .int x3] μ
  refine g_icmp_ge (pc' := 28) (off := 19) (by decide) (by decide +kernel) (fun hc => ?_) (fun hc => ?_)
  · replace h := h.2 hc
    show G Γ m_MO_sumIn (d + 1) (0, 0) Q 28 [jk, .ref r1, .int x2, .int x3] [] μ
    refine run_ok (pc' := 29) [(.iload_n 2, 0, 0, 0)] _ _ _ _ (by decide +kernel) ?_
    show G Γ m_MO_sumIn (d + 1) (0, 0) Q 29 [jk, .ref r1, .int x2, .int x3] [.int x2] μ
    exact g_reti (by decide +kernel) rfl h
  · replace h := h.1 hc
    show G Γ m_MO_sumIn (d + 1) (0, 0) Q 12 [jk, .ref r1, .int x2, .int x3] [] μ
    obtain ⟨ib2, h⟩ := h
    refine run_ok (pc' := 4) [(.iload_n 2, 0, 0, 0), (.aload_n 1, 0, 0, 0), (.iconst 5, 0, 0, 0), (.iload_n 3, 0, 0, 0), (.imul, 0, 0, 0), (.iconst 1, 0, 0, 0), (.iadd, 0, 0, 0), (.iaload, 0, 0, 0), (.iadd, 0, 0, 0), (.istore_n 2, 0, 0, 0), (.iinc 3 1, 0, 0, 0), (.goto (-21), 0, 0, 0)] _ _ _ _ (by decide +kernel) ?_
    show _ ∧ (_)
    refine ⟨ib2, ?_⟩
    show G Γ m_MO_sumIn (d + 1) (0, 0) Q 4 [jk, .ref r1, .int (x2 + (xI μ r1 (((w 5) * x3) + (w 1)).toNatClampNeg)), .int (x3 + w 1)] [] μ
    exact h
/-! FrostBoxModel valueIn([I)I -/
set_option maxRecDepth 100000 in
theorem lk_11_350 : LkV 11 350 m_MO_valueOf 2 := ⟨lc_MO_valueOf, lwG_in (List.mem_of_getElem? (i := 1612) rfl) rfl, lwG_in (List.mem_of_getElem? (i := 1614) rfl) rfl, lwG_in (List.mem_of_getElem? (i := 78) rfl) rfl⟩
set_option maxRecDepth 100000 in
theorem B_MO_valueIn_0 {Γ : XG} {d : Nat} {Q : Option Value → XM → Prop} {r0 r1 : Nat} {μ : XM}  (h : G Γ m_MO_valueIn (d + 1) (0, 0) Q 4 [.ref r0, .ref r1, .int (w 0), .int (w 0)] [] μ) : G Γ m_MO_valueIn (d + 1) (0, 0) Q 0 [.ref r0, .ref r1] [] μ := by
  refine run_ok (pc' := 4) [(.iconst 0, 0, 0, 0), (.istore_n 2, 0, 0, 0), (.iconst 0, 0, 0, 0), (.istore_n 3, 0, 0, 0)] _ _ _ _ (by decide +kernel) ?_
  show G Γ m_MO_valueIn (d + 1) (0, 0) Q 4 [.ref r0, .ref r1, .int (w 0), .int (w 0)] [] μ
  exact h
set_option maxRecDepth 100000 in
theorem B_MO_valueIn_4 {Γ : XG} {d : Nat} {Q : Option Value → XM → Prop} {r0 r1 : Nat} {x2 x3 : Int32} {μ : XM} (o_r0_11 : ob μ r0 11) (h : inb μ 0 r1 (w 40) ∧ ((x3 < xI μ r1 (w 40).toNatClampNeg → Call Γ m_MO_valueOf d [.ref r0, .ref r1, .int x3] μ (KI (fun v2 μ2 => G Γ m_MO_valueIn (d + 1) (0, 0) Q 4 [.ref r0, .ref r1, .int (x2 + v2), .int (x3 + w 1)] [] μ2))) ∧ (¬ x3 < xI μ r1 (w 40).toNatClampNeg → Q (some (.int x2)) μ))) : G Γ m_MO_valueIn (d + 1) (0, 0) Q 4 [.ref r0, .ref r1, .int x2, .int x3] [] μ := by
  obtain ⟨ib1, h⟩ := h
  refine run_ok (pc' := 9) [(.iload_n 3, 0, 0, 0), (.aload_n 1, 0, 0, 0), (.bipush 40, 0, 0, 0), (.iaload, 0, 0, 0)] _ _ _ _ (by decide +kernel) ?_
  show _ ∧ (_)
  refine ⟨ib1, ?_⟩
  show G Γ m_MO_valueIn (d + 1) (0, 0) Q 9 [.ref r0, .ref r1, .int x2, .int x3] [.int (xI μ r1 (w 40).toNatClampNeg), .int x3] μ
  refine g_icmp_ge (pc' := 27) (off := 18) (by decide) (by decide +kernel) (fun hc => ?_) (fun hc => ?_)
  · replace h := h.2 hc
    show G Γ m_MO_valueIn (d + 1) (0, 0) Q 27 [.ref r0, .ref r1, .int x2, .int x3] [] μ
    refine run_ok (pc' := 28) [(.iload_n 2, 0, 0, 0)] _ _ _ _ (by decide +kernel) ?_
    show G Γ m_MO_valueIn (d + 1) (0, 0) Q 28 [.ref r0, .ref r1, .int x2, .int x3] [.int x2] μ
    exact g_reti (by decide +kernel) rfl h
  · replace h := h.1 hc
    show G Γ m_MO_valueIn (d + 1) (0, 0) Q 12 [.ref r0, .ref r1, .int x2, .int x3] [] μ
    refine run_ok (pc' := 16) [(.iload_n 2, 0, 0, 0), (.aload_n 0, 0, 0, 0), (.aload_n 1, 0, 0, 0), (.iload_n 3, 0, 0, 0)] _ _ _ _ (by decide +kernel) ?_
    show G Γ m_MO_valueIn (d + 1) (0, 0) Q 16 [.ref r0, .ref r1, .int x2, .int x3] [.int x3, .ref r1, .ref r0, .int x2] μ
    refine g_invV (M' := m_MO_valueOf) (b1 := 0) (b2 := 0) (As := [.ref r1, .int x3]) (a := r0) (st := [.int x2]) lk_11_350 (by decide +kernel) rfl (dk_MO_valueOf d) (Nat.le_of_ble_eq_true rfl) (Or.inl ⟨11, o_r0_11, rfl⟩) h ?_
    rintro _ μ2 ⟨v2, rfl, h⟩ hn2
    show G Γ m_MO_valueIn (d + 1) (0, 0) Q 19 [.ref r0, .ref r1, .int x2, .int x3] [.int v2, .int x2] μ2
    refine run_ok (pc' := 4) [(.iadd, 0, 0, 0), (.istore_n 2, 0, 0, 0), (.iinc 3 1, 0, 0, 0), (.goto (-20), 0, 0, 0)] _ _ _ _ (by decide +kernel) ?_
    show G Γ m_MO_valueIn (d + 1) (0, 0) Q 4 [.ref r0, .ref r1, .int (x2 + v2), .int (x3 + w 1)] [] μ2
    exact h
/-! FrostBoxModel weightOf([II)I -/
set_option maxRecDepth 100000 in
theorem B_MO_weightOf_0 {Γ : XG} {d : Nat} {Q : Option Value → XM → Prop} {r0 r1 : Nat} {x2 : Int32} {μ : XM} (o_r0_11 : ob μ r0 11) (h : inb μ 0 r1 (((w 5) * x2) + (w 1)) ∧ inb μ 0 r1 (((w 5) * x2) + (w 0)) ∧ Call Γ m_MO_told d [.ref r0, .int (xI μ r1 (((w 5) * x2) + (w 0)).toNatClampNeg), .int (w 1)] μ (KI (fun v3 μ3 => Q (some (.int ((xI μ r1 (((w 5) * x2) + (w 1)).toNatClampNeg) * v3))) μ3))) : G Γ m_MO_weightOf (d + 1) (0, 0) Q 0 [.ref r0, .ref r1, .int x2] [] μ := by
  obtain ⟨ib1, h⟩ := h
  obtain ⟨ib2, h⟩ := h
  refine run_ok (pc' := 16) [(.aload_n 1, 0, 0, 0), (.iconst 5, 0, 0, 0), (.iload_n 2, 0, 0, 0), (.imul, 0, 0, 0), (.iconst 1, 0, 0, 0), (.iadd, 0, 0, 0), (.iaload, 0, 0, 0), (.aload_n 0, 0, 0, 0), (.aload_n 1, 0, 0, 0), (.iconst 5, 0, 0, 0), (.iload_n 2, 0, 0, 0), (.imul, 0, 0, 0), (.iconst 0, 0, 0, 0), (.iadd, 0, 0, 0), (.iaload, 0, 0, 0), (.iconst 1, 0, 0, 0)] _ _ _ _ (by decide +kernel) ?_
  show _ ∧ (_ ∧ (_))
  refine ⟨ib1, ib2, ?_⟩
  show G Γ m_MO_weightOf (d + 1) (0, 0) Q 16 [.ref r0, .ref r1, .int x2] [.int (w 1), .int (xI μ r1 (((w 5) * x2) + (w 0)).toNatClampNeg), .ref r0, .int (xI μ r1 (((w 5) * x2) + (w 1)).toNatClampNeg)] μ
  refine g_invV (M' := m_MO_told) (b1 := 0) (b2 := 0) (As := [.int (xI μ r1 (((w 5) * x2) + (w 0)).toNatClampNeg), .int (w 1)]) (a := r0) (st := [.int (xI μ r1 (((w 5) * x2) + (w 1)).toNatClampNeg)]) lk_11_322 (by decide +kernel) rfl (dk_MO_told d) (Nat.le_of_ble_eq_true rfl) (Or.inl ⟨11, o_r0_11, rfl⟩) h ?_
  rintro _ μ3 ⟨v3, rfl, h⟩ hn3
  show G Γ m_MO_weightOf (d + 1) (0, 0) Q 19 [.ref r0, .ref r1, .int x2] [.int v3, .int (xI μ r1 (((w 5) * x2) + (w 1)).toNatClampNeg)] μ3
  refine run_ok (pc' := 20) [(.imul, 0, 0, 0)] _ _ _ _ (by decide +kernel) ?_
  show G Γ m_MO_weightOf (d + 1) (0, 0) Q 20 [.ref r0, .ref r1, .int x2] [.int ((xI μ r1 (((w 5) * x2) + (w 1)).toNatClampNeg) * v3)] μ3
  exact g_reti (by decide +kernel) rfl h
/-! FrostBoxModel rule(I)I -/
set_option maxRecDepth 100000 in
theorem B_MO_rule_0 {Γ : XG} {d : Nat} {Q : Option Value → XM → Prop} {r0 : Nat} {x1 : Int32} {μ : XM} (o_r0_11 : ob μ r0 11) (h : ∀ μ1, μ1 = sI μ r0 0 (w 0) → ((w 0 < xI μ1 r0 25 → Call Γ m_MO_isIn d [.long (x1.toInt64), .long (wl 0), .long (wl 3)] μ1 (KI (fun v2 μ2 => ((v2 = w 0 → Q (some (.int (w (-1)))) μ2) ∧ (¬ v2 = w 0 → ∃ a3, xR μ2 r0 18 = some a3 ∧ inb μ2 0 a3 x1 ∧ Q (some (.int (xI μ2 a3 x1.toNatClampNeg))) μ2))))) ∧ (¬ w 0 < xI μ1 r0 25 → Q (some (.int (w (-1)))) μ1))) : G Γ m_MO_rule (d + 1) (0, 0) Q 0 [.ref r0, .int x1] [] μ := by
  refine run_ok (pc' := 5) [(.aload_n 0, 0, 0, 0), (.iconst 0, 0, 0, 0), (.putfield 109, 11, 0, 0)] _ _ _ _ (by decide +kernel) ?_
  show _ ∧ (_)
  refine ⟨o_r0_11, ?_⟩
  show G Γ m_MO_rule (d + 1) (0, 0) Q 5 [.ref r0, .int x1] [] (sI μ r0 0 (w 0))
  obtain ⟨μ1, em1⟩ : ∃ m : XM, m = sI μ r0 0 (w 0) := ⟨_, rfl⟩
  replace h := h μ1 em1
  have hm1 : xN μ ≤ xN μ1 := by rw [em1]; exact Nat.le_refl _
  rw [← em1]
  refine run_ok (pc' := 9) [(.aload_n 0, 0, 0, 0), (.getfield 307, 11, 25, 0)] _ _ _ _ (by decide +kernel) ?_
  show _ ∧ (_)
  refine ⟨((o_r0_11).mono hm1), ?_⟩
  show G Γ m_MO_rule (d + 1) (0, 0) Q 9 [.ref r0, .int x1] [.int (xI μ1 r0 25)] μ1
  refine g_ifz_le (pc' := 33) (off := 24) (by decide) (by decide +kernel) (fun hc => ?_) (fun hc => ?_)
  · replace h := h.2 hc
    show G Γ m_MO_rule (d + 1) (0, 0) Q 33 [.ref r0, .int x1] [] μ1
    refine run_ok (pc' := 34) [(.iconst (-1), 0, 0, 0)] _ _ _ _ (by decide +kernel) ?_
    show G Γ m_MO_rule (d + 1) (0, 0) Q 34 [.ref r0, .int x1] [.int (w (-1))] μ1
    exact g_reti (by decide +kernel) rfl h
  · replace h := h.1 hc
    show G Γ m_MO_rule (d + 1) (0, 0) Q 12 [.ref r0, .int x1] [] μ1
    refine run_ok (pc' := 18) [(.iload_n 1, 0, 0, 0), (.i2l, 0, 0, 0), (.lconst 0, 0, 0, 0), (.ldc2_w 354, 0, 0, 3)] _ _ _ _ (by decide +kernel) ?_
    show G Γ m_MO_rule (d + 1) (0, 0) Q 18 [.ref r0, .int x1] [.long (wl 3), .long (wl 0), .long (x1.toInt64)] μ1
    refine g_invS (M' := m_MO_isIn) (b1 := 0) (b2 := 0) (As := [.long (x1.toInt64), .long (wl 0), .long (wl 3)]) (st := []) lk_11_230 (by decide +kernel) rfl (dk_MO_isIn d) (Nat.le_of_ble_eq_true rfl) h ?_
    rintro _ μ2 ⟨v2, rfl, h⟩ hn2
    show G Γ m_MO_rule (d + 1) (0, 0) Q 21 [.ref r0, .int x1] [.int v2] μ2
    refine g_ifz_eq (pc' := 33) (off := 12) (by decide) (by decide +kernel) (fun hc => ?_) (fun hc => ?_)
    · replace h := h.1 hc
      show G Γ m_MO_rule (d + 1) (0, 0) Q 33 [.ref r0, .int x1] [] μ2
      refine run_ok (pc' := 34) [(.iconst (-1), 0, 0, 0)] _ _ _ _ (by decide +kernel) ?_
      show G Γ m_MO_rule (d + 1) (0, 0) Q 34 [.ref r0, .int x1] [.int (w (-1))] μ2
      exact g_reti (by decide +kernel) rfl h
    · replace h := h.2 hc
      show G Γ m_MO_rule (d + 1) (0, 0) Q 24 [.ref r0, .int x1] [] μ2
      obtain ⟨a3, ea3, h⟩ := h
      obtain ⟨ib4, h⟩ := h
      refine run_ok (pc' := 34) [(.aload_n 0, 0, 0, 0), (.getfield 37, 11, 18, 2), (.iload_n 1, 0, 0, 0), (.iaload, 0, 0, 0), (.goto 4, 0, 0, 0)] _ _ _ _ (by decide +kernel) ?_
      show _ ∧ (∃ _, _ ∧ (_ ∧ (_)))
      refine ⟨(((o_r0_11).mono hm1).mono hn2), a3, ea3, ib4, ?_⟩
      show G Γ m_MO_rule (d + 1) (0, 0) Q 34 [.ref r0, .int x1] [.int (xI μ2 a3 x1.toNatClampNeg)] μ2
      exact g_reti (by decide +kernel) rfl h
/-! FrostBoxModel kind(II)I -/
set_option maxRecDepth 100000 in
theorem lk_11_356 : LkV 11 356 m_MO_isKind 1 := ⟨lc_MO_isKind, lwG_in (List.mem_of_getElem? (i := 1594) rfl) rfl, lwG_in (List.mem_of_getElem? (i := 1596) rfl) rfl, lwG_in (List.mem_of_getElem? (i := 75) rfl) rfl⟩
set_option maxRecDepth 100000 in
theorem B_MO_kind_0 {Γ : XG} {d : Nat} {Q : Option Value → XM → Prop} {r0 : Nat} {x1 x2 : Int32} {μ : XM} (o_r0_11 : ob μ r0 11) (h : ∀ μ1, μ1 = sI μ r0 0 (w 0) → Call Γ m_MO_isKind d [.ref r0, .int x1] μ1 (KI (fun v2 μ2 => ((v2 = w 0 → Q (some (.int (w (-1)))) μ2) ∧ (¬ v2 = w 0 → Call Γ m_MO_isIn d [.long (x2.toInt64), .long (wl 0), .long (wl 4)] μ2 (KI (fun v3 μ3 => ((v3 = w 0 → Q (some (.int (w (-1)))) μ3) ∧ (¬ v3 = w 0 → ((x2 = w 4 → Call Γ m_MO_told d [.ref r0, .int x1, .int (w 4)] μ3 (KI (fun v5 μ5 => ((v5 = w 6 → Q (some (.int (w (-1)))) μ5) ∧ (¬ v5 = w 6 → Call Γ m_MO_told d [.ref r0, .int x1, .int x2] μ5 (KI (fun v6 μ6 => Q (some (.int v6)) μ6))))))) ∧ (¬ x2 = w 4 → Call Γ m_MO_told d [.ref r0, .int x1, .int x2] μ3 (KI (fun v4 μ4 => Q (some (.int v4)) μ4))))))))))))) : G Γ m_MO_kind (d + 1) (0, 0) Q 0 [.ref r0, .int x1, .int x2] [] μ := by
  refine run_ok (pc' := 5) [(.aload_n 0, 0, 0, 0), (.iconst 0, 0, 0, 0), (.putfield 109, 11, 0, 0)] _ _ _ _ (by decide +kernel) ?_
  show _ ∧ (_)
  refine ⟨o_r0_11, ?_⟩
  show G Γ m_MO_kind (d + 1) (0, 0) Q 5 [.ref r0, .int x1, .int x2] [] (sI μ r0 0 (w 0))
  obtain ⟨μ1, em1⟩ : ∃ m : XM, m = sI μ r0 0 (w 0) := ⟨_, rfl⟩
  replace h := h μ1 em1
  have hm1 : xN μ ≤ xN μ1 := by rw [em1]; exact Nat.le_refl _
  rw [← em1]
  refine run_ok (pc' := 7) [(.aload_n 0, 0, 0, 0), (.iload_n 1, 0, 0, 0)] _ _ _ _ (by decide +kernel) ?_
  show G Γ m_MO_kind (d + 1) (0, 0) Q 7 [.ref r0, .int x1, .int x2] [.int x1, .ref r0] μ1
  refine g_invV (M' := m_MO_isKind) (b1 := 0) (b2 := 0) (As := [.int x1]) (a := r0) (st := []) lk_11_356 (by decide +kernel) rfl (dk_MO_isKind d) (Nat.le_of_ble_eq_true rfl) (Or.inl ⟨11, ((o_r0_11).mono hm1), rfl⟩) h ?_
  rintro _ μ2 ⟨v2, rfl, h⟩ hn2
  show G Γ m_MO_kind (d + 1) (0, 0) Q 10 [.ref r0, .int x1, .int x2] [.int v2] μ2
  refine g_ifz_eq (pc' := 25) (off := 15) (by decide) (by decide +kernel) (fun hc => ?_) (fun hc => ?_)
  · replace h := h.1 hc
    show G Γ m_MO_kind (d + 1) (0, 0) Q 25 [.ref r0, .int x1, .int x2] [] μ2
    refine run_ok (pc' := 26) [(.iconst (-1), 0, 0, 0)] _ _ _ _ (by decide +kernel) ?_
    show G Γ m_MO_kind (d + 1) (0, 0) Q 26 [.ref r0, .int x1, .int x2] [.int (w (-1))] μ2
    exact g_reti (by decide +kernel) rfl h
  · replace h := h.2 hc
    show G Γ m_MO_kind (d + 1) (0, 0) Q 13 [.ref r0, .int x1, .int x2] [] μ2
    refine run_ok (pc' := 19) [(.iload_n 2, 0, 0, 0), (.i2l, 0, 0, 0), (.lconst 0, 0, 0, 0), (.ldc2_w 359, 0, 0, 4)] _ _ _ _ (by decide +kernel) ?_
    show G Γ m_MO_kind (d + 1) (0, 0) Q 19 [.ref r0, .int x1, .int x2] [.long (wl 4), .long (wl 0), .long (x2.toInt64)] μ2
    refine g_invS (M' := m_MO_isIn) (b1 := 0) (b2 := 0) (As := [.long (x2.toInt64), .long (wl 0), .long (wl 4)]) (st := []) lk_11_230 (by decide +kernel) rfl (dk_MO_isIn d) (Nat.le_of_ble_eq_true rfl) h ?_
    rintro _ μ3 ⟨v3, rfl, h⟩ hn3
    show G Γ m_MO_kind (d + 1) (0, 0) Q 22 [.ref r0, .int x1, .int x2] [.int v3] μ3
    refine g_ifz_ne (pc' := 27) (off := 5) (by decide) (by decide +kernel) (fun hc => ?_) (fun hc => ?_)
    · replace h := h.2 hc
      show G Γ m_MO_kind (d + 1) (0, 0) Q 27 [.ref r0, .int x1, .int x2] [] μ3
      refine run_ok (pc' := 29) [(.iload_n 2, 0, 0, 0), (.iconst 4, 0, 0, 0)] _ _ _ _ (by decide +kernel) ?_
      show G Γ m_MO_kind (d + 1) (0, 0) Q 29 [.ref r0, .int x1, .int x2] [.int (w 4), .int x2] μ3
      refine g_icmp_ne (pc' := 47) (off := 18) (by decide) (by decide +kernel) (fun hc => ?_) (fun hc => ?_)
      · replace h := h.2 hc
        show G Γ m_MO_kind (d + 1) (0, 0) Q 47 [.ref r0, .int x1, .int x2] [] μ3
        refine run_ok (pc' := 50) [(.aload_n 0, 0, 0, 0), (.iload_n 1, 0, 0, 0), (.iload_n 2, 0, 0, 0)] _ _ _ _ (by decide +kernel) ?_
        show G Γ m_MO_kind (d + 1) (0, 0) Q 50 [.ref r0, .int x1, .int x2] [.int x2, .int x1, .ref r0] μ3
        refine g_invV (M' := m_MO_told) (b1 := 0) (b2 := 0) (As := [.int x1, .int x2]) (a := r0) (st := []) lk_11_322 (by decide +kernel) rfl (dk_MO_told d) (Nat.le_of_ble_eq_true rfl) (Or.inl ⟨11, ((((o_r0_11).mono hm1).mono hn2).mono hn3), rfl⟩) h ?_
        rintro _ μ4 ⟨v4, rfl, h⟩ hn4
        show G Γ m_MO_kind (d + 1) (0, 0) Q 53 [.ref r0, .int x1, .int x2] [.int v4] μ4
        exact g_reti (by decide +kernel) rfl h
      · replace h := h.1 hc
        show G Γ m_MO_kind (d + 1) (0, 0) Q 32 [.ref r0, .int x1, .int x2] [] μ3
        refine run_ok (pc' := 35) [(.aload_n 0, 0, 0, 0), (.iload_n 1, 0, 0, 0), (.iconst 4, 0, 0, 0)] _ _ _ _ (by decide +kernel) ?_
        show G Γ m_MO_kind (d + 1) (0, 0) Q 35 [.ref r0, .int x1, .int x2] [.int (w 4), .int x1, .ref r0] μ3
        refine g_invV (M' := m_MO_told) (b1 := 0) (b2 := 0) (As := [.int x1, .int (w 4)]) (a := r0) (st := []) lk_11_322 (by decide +kernel) rfl (dk_MO_told d) (Nat.le_of_ble_eq_true rfl) (Or.inl ⟨11, ((((o_r0_11).mono hm1).mono hn2).mono hn3), rfl⟩) h ?_
        rintro _ μ5 ⟨v5, rfl, h⟩ hn5
        show G Γ m_MO_kind (d + 1) (0, 0) Q 38 [.ref r0, .int x1, .int x2] [.int v5] μ5
        refine run_ok (pc' := 40) [(.bipush 6, 0, 0, 0)] _ _ _ _ (by decide +kernel) ?_
        show G Γ m_MO_kind (d + 1) (0, 0) Q 40 [.ref r0, .int x1, .int x2] [.int (w 6), .int v5] μ5
        refine g_icmp_ne (pc' := 47) (off := 7) (by decide) (by decide +kernel) (fun hc => ?_) (fun hc => ?_)
        · replace h := h.2 hc
          show G Γ m_MO_kind (d + 1) (0, 0) Q 47 [.ref r0, .int x1, .int x2] [] μ5
          refine run_ok (pc' := 50) [(.aload_n 0, 0, 0, 0), (.iload_n 1, 0, 0, 0), (.iload_n 2, 0, 0, 0)] _ _ _ _ (by decide +kernel) ?_
          show G Γ m_MO_kind (d + 1) (0, 0) Q 50 [.ref r0, .int x1, .int x2] [.int x2, .int x1, .ref r0] μ5
          refine g_invV (M' := m_MO_told) (b1 := 0) (b2 := 0) (As := [.int x1, .int x2]) (a := r0) (st := []) lk_11_322 (by decide +kernel) rfl (dk_MO_told d) (Nat.le_of_ble_eq_true rfl) (Or.inl ⟨11, (((((o_r0_11).mono hm1).mono hn2).mono hn3).mono hn5), rfl⟩) h ?_
          rintro _ μ6 ⟨v6, rfl, h⟩ hn6
          show G Γ m_MO_kind (d + 1) (0, 0) Q 53 [.ref r0, .int x1, .int x2] [.int v6] μ6
          exact g_reti (by decide +kernel) rfl h
        · replace h := h.1 hc
          show G Γ m_MO_kind (d + 1) (0, 0) Q 43 [.ref r0, .int x1, .int x2] [] μ5
          refine run_ok (pc' := 53) [(.iconst (-1), 0, 0, 0), (.goto 9, 0, 0, 0)] _ _ _ _ (by decide +kernel) ?_
          show G Γ m_MO_kind (d + 1) (0, 0) Q 53 [.ref r0, .int x1, .int x2] [.int (w (-1))] μ5
          exact g_reti (by decide +kernel) rfl h
    · replace h := h.1 hc
      show G Γ m_MO_kind (d + 1) (0, 0) Q 25 [.ref r0, .int x1, .int x2] [] μ3
      refine run_ok (pc' := 26) [(.iconst (-1), 0, 0, 0)] _ _ _ _ (by decide +kernel) ?_
      show G Γ m_MO_kind (d + 1) (0, 0) Q 26 [.ref r0, .int x1, .int x2] [.int (w (-1))] μ3
      exact g_reti (by decide +kernel) rfl h
/-! FrostBoxModel box(II)I -/
set_option maxRecDepth 100000 in
theorem lk_11_367 : LkV 11 367 m_MO_weightOf 2 := ⟨lc_MO_weightOf, lwG_in (List.mem_of_getElem? (i := 1635) rfl) rfl, lwG_in (List.mem_of_getElem? (i := 1637) rfl) rfl, lwG_in (List.mem_of_getElem? (i := 82) rfl) rfl⟩
set_option maxRecDepth 100000 in
theorem lk_11_361 : LkV 11 361 m_MO_isBox 2 := ⟨lc_MO_isBox, lwG_in (List.mem_of_getElem? (i := 1607) rfl) rfl, lwG_in (List.mem_of_getElem? (i := 1609) rfl) rfl, lwG_in (List.mem_of_getElem? (i := 77) rfl) rfl⟩
set_option maxRecDepth 100000 in
theorem B_MO_box_0 {Γ : XG} {d : Nat} {Q : Option Value → XM → Prop} {r0 r0_30 : Nat} {x1 x2 : Int32} {μ : XM} (o_r0_11 : ob μ r0 11) (e_r0_30 : xR μ r0 30 = some r0_30) (h : Call Γ m_MO_isBox d [.ref r0, .ref r0_30, .int x1] μ (KI (fun v1 μ1 => ((v1 = w 0 → ∀ μ2, μ2 = sI μ1 r0 0 (w 1) → ((w 0 < xI μ2 r0 0 → Q (some (.int (w 0))) μ2) ∧ (¬ w 0 < xI μ2 r0 0 → (((x2 < w 4 ∨ w 6 < x2) → xR μ2 r0 30 = some r0_30 ∧ inb μ2 0 r0_30 (((w 5) * x1) + x2) ∧ Q (some (.int (xI μ2 r0_30 (((w 5) * x1) + x2).toNatClampNeg))) μ2) ∧ (x2 = w 4 → xR μ2 r0 30 = some r0_30 ∧ Call Γ m_MO_valueOf d [.ref r0, .ref r0_30, .int x1] μ2 (KI (fun v6 μ6 => Q (some (.int v6)) μ6))) ∧ (x2 = w 5 → xR μ2 r0 30 = some r0_30 ∧ Call Γ m_MO_weightOf d [.ref r0, .ref r0_30, .int x1] μ2 (KI (fun v8 μ8 => Q (some (.int v8)) μ8))) ∧ (x2 = w 6 → xR μ2 r0 30 = some r0_30 ∧ inb μ2 0 r0_30 (w 40) ∧ Q (some (.int (((xI μ2 r0_30 (w 40).toNatClampNeg) - (w 1)) - x1))) μ2))))) ∧ (¬ v1 = w 0 → Call Γ m_MO_isIn d [.long (x2.toInt64), .long (wl 0), .long (wl 6)] μ1 (KI (fun v11 μ11 => ((v11 = w 0 → ∀ μ12, μ12 = sI μ11 r0 0 (w 1) → ((w 0 < xI μ12 r0 0 → Q (some (.int (w 0))) μ12) ∧ (¬ w 0 < xI μ12 r0 0 → (((x2 < w 4 ∨ w 6 < x2) → xR μ12 r0 30 = some r0_30 ∧ inb μ12 0 r0_30 (((w 5) * x1) + x2) ∧ Q (some (.int (xI μ12 r0_30 (((w 5) * x1) + x2).toNatClampNeg))) μ12) ∧ (x2 = w 4 → xR μ12 r0 30 = some r0_30 ∧ Call Γ m_MO_valueOf d [.ref r0, .ref r0_30, .int x1] μ12 (KI (fun v16 μ16 => Q (some (.int v16)) μ16))) ∧ (x2 = w 5 → xR μ12 r0 30 = some r0_30 ∧ Call Γ m_MO_weightOf d [.ref r0, .ref r0_30, .int x1] μ12 (KI (fun v18 μ18 => Q (some (.int v18)) μ18))) ∧ (x2 = w 6 → xR μ12 r0 30 = some r0_30 ∧ inb μ12 0 r0_30 (w 40) ∧ Q (some (.int (((xI μ12 r0_30 (w 40).toNatClampNeg) - (w 1)) - x1))) μ12))))) ∧ (¬ v11 = w 0 → ∀ μ21, μ21 = sI μ11 r0 0 (w 0) → ((w 0 < xI μ21 r0 0 → Q (some (.int (w 0))) μ21) ∧ (¬ w 0 < xI μ21 r0 0 → (((x2 < w 4 ∨ w 6 < x2) → xR μ21 r0 30 = some r0_30 ∧ inb μ21 0 r0_30 (((w 5) * x1) + x2) ∧ Q (some (.int (xI μ21 r0_30 (((w 5) * x1) + x2).toNatClampNeg))) μ21) ∧ (x2 = w 4 → xR μ21 r0 30 = some r0_30 ∧ Call Γ m_MO_valueOf d [.ref r0, .ref r0_30, .int x1] μ21 (KI (fun v25 μ25 => Q (some (.int v25)) μ25))) ∧ (x2 = w 5 → xR μ21 r0 30 = some r0_30 ∧ Call Γ m_MO_weightOf d [.ref r0, .ref r0_30, .int x1] μ21 (KI (fun v27 μ27 => Q (some (.int v27)) μ27))) ∧ (x2 = w 6 → xR μ21 r0 30 = some r0_30 ∧ inb μ21 0 r0_30 (w 40) ∧ Q (some (.int (((xI μ21 r0_30 (w 40).toNatClampNeg) - (w 1)) - x1))) μ21))))))))))))) : G Γ m_MO_box (d + 1) (0, 0) Q 0 [.ref r0, .int x1, .int x2] [] μ := by
  refine run_ok (pc' := 7) [(.aload_n 0, 0, 0, 0), (.aload_n 0, 0, 0, 0), (.aload_n 0, 0, 0, 0), (.getfield 58, 11, 30, 2), (.iload_n 1, 0, 0, 0)] _ _ _ _ (by decide +kernel) ?_
  show _ ∧ (∃ _, _ ∧ (_))
  refine ⟨o_r0_11, r0_30, e_r0_30, ?_⟩
  show G Γ m_MO_box (d + 1) (0, 0) Q 7 [.ref r0, .int x1, .int x2] [.int x1, .ref r0_30, .ref r0, .ref r0] μ
  refine g_invV (M' := m_MO_isBox) (b1 := 0) (b2 := 0) (As := [.ref r0_30, .int x1]) (a := r0) (st := [.ref r0]) lk_11_361 (by decide +kernel) rfl (dk_MO_isBox d) (Nat.le_of_ble_eq_true rfl) (Or.inl ⟨11, o_r0_11, rfl⟩) h ?_
  rintro _ μ1 ⟨v1, rfl, h⟩ hn1
  show G Γ m_MO_box (d + 1) (0, 0) Q 10 [.ref r0, .int x1, .int x2] [.int v1, .ref r0] μ1
  refine g_ifz_eq (pc' := 29) (off := 19) (by decide) (by decide +kernel) (fun hc => ?_) (fun hc => ?_)
  · replace h := h.1 hc
    show G Γ m_MO_box (d + 1) (0, 0) Q 29 [.ref r0, .int x1, .int x2] [.ref r0] μ1
    refine run_ok (pc' := 33) [(.iconst 1, 0, 0, 0), (.putfield 109, 11, 0, 0)] _ _ _ _ (by decide +kernel) ?_
    show _ ∧ (_)
    refine ⟨((o_r0_11).mono hn1), ?_⟩
    show G Γ m_MO_box (d + 1) (0, 0) Q 33 [.ref r0, .int x1, .int x2] [] (sI μ1 r0 0 (w 1))
    obtain ⟨μ2, em2⟩ : ∃ m : XM, m = sI μ1 r0 0 (w 1) := ⟨_, rfl⟩
    replace h := h μ2 em2
    have hm2 : xN μ1 ≤ xN μ2 := by rw [em2]; exact Nat.le_refl _
    rw [← em2]
    refine run_ok (pc' := 37) [(.aload_n 0, 0, 0, 0), (.getfield 109, 11, 0, 0)] _ _ _ _ (by decide +kernel) ?_
    show _ ∧ (_)
    refine ⟨(((o_r0_11).mono hn1).mono hm2), ?_⟩
    show G Γ m_MO_box (d + 1) (0, 0) Q 37 [.ref r0, .int x1, .int x2] [.int (xI μ2 r0 0)] μ2
    refine g_ifz_le (pc' := 42) (off := 5) (by decide) (by decide +kernel) (fun hc => ?_) (fun hc => ?_)
    · replace h := h.2 hc
      show G Γ m_MO_box (d + 1) (0, 0) Q 42 [.ref r0, .int x1, .int x2] [] μ2
      refine run_ok (pc' := 43) [(.iload_n 2, 0, 0, 0)] _ _ _ _ (by decide +kernel) ?_
      show G Γ m_MO_box (d + 1) (0, 0) Q 43 [.ref r0, .int x1, .int x2] [.int x2] μ2
      refine g_sw (df := 57) (lo := 4) (n := 3) (offs := #[25, 35, 45]) (len := 25) (by decide +kernel) (by decide) (pd := 100) (by decide) (fun hc => ?_) (fun k hk hc => ?_)
      · replace h := h.1 hc
        show G Γ m_MO_box (d + 1) (0, 0) Q 100 [.ref r0, .int x1, .int x2] [] μ2
        obtain ⟨ea3, h⟩ := h
        obtain ⟨ib4, h⟩ := h
        refine run_ok (pc' := 110) [(.aload_n 0, 0, 0, 0), (.getfield 58, 11, 30, 2), (.iconst 5, 0, 0, 0), (.iload_n 1, 0, 0, 0), (.imul, 0, 0, 0), (.iload_n 2, 0, 0, 0), (.iadd, 0, 0, 0), (.iaload, 0, 0, 0)] _ _ _ _ (by decide +kernel) ?_
        show _ ∧ (∃ _, _ ∧ (_ ∧ (_)))
        refine ⟨(((o_r0_11).mono hn1).mono hm2), r0_30, ea3, ib4, ?_⟩
        show G Γ m_MO_box (d + 1) (0, 0) Q 110 [.ref r0, .int x1, .int x2] [.int (xI μ2 r0_30 (((w 5) * x1) + x2).toNatClampNeg)] μ2
        exact g_reti (by decide +kernel) rfl h
      · replace h := h.2
        match k, hk, hc with
        | 0, _, hc =>
          replace h := h.1 hc
          refine ⟨68, 25, rfl, by decide, ?_⟩
          show G Γ m_MO_box (d + 1) (0, 0) Q 68 [.ref r0, .int x1, .int x2] [] μ2
          obtain ⟨ea5, h⟩ := h
          refine run_ok (pc' := 74) [(.aload_n 0, 0, 0, 0), (.aload_n 0, 0, 0, 0), (.getfield 58, 11, 30, 2), (.iload_n 1, 0, 0, 0)] _ _ _ _ (by decide +kernel) ?_
          show _ ∧ (∃ _, _ ∧ (_))
          refine ⟨(((o_r0_11).mono hn1).mono hm2), r0_30, ea5, ?_⟩
          show G Γ m_MO_box (d + 1) (0, 0) Q 74 [.ref r0, .int x1, .int x2] [.int x1, .ref r0_30, .ref r0] μ2
          refine g_invV (M' := m_MO_valueOf) (b1 := 0) (b2 := 0) (As := [.ref r0_30, .int x1]) (a := r0) (st := []) lk_11_350 (by decide +kernel) rfl (dk_MO_valueOf d) (Nat.le_of_ble_eq_true rfl) (Or.inl ⟨11, (((o_r0_11).mono hn1).mono hm2), rfl⟩) h ?_
          rintro _ μ6 ⟨v6, rfl, h⟩ hn6
          show G Γ m_MO_box (d + 1) (0, 0) Q 77 [.ref r0, .int x1, .int x2] [.int v6] μ6
          exact g_reti (by decide +kernel) rfl h
        | 1, _, hc =>
          replace h := h.2.1 hc
          refine ⟨78, 35, rfl, by decide, ?_⟩
          show G Γ m_MO_box (d + 1) (0, 0) Q 78 [.ref r0, .int x1, .int x2] [] μ2
          obtain ⟨ea7, h⟩ := h
          refine run_ok (pc' := 84) [(.aload_n 0, 0, 0, 0), (.aload_n 0, 0, 0, 0), (.getfield 58, 11, 30, 2), (.iload_n 1, 0, 0, 0)] _ _ _ _ (by decide +kernel) ?_
          show _ ∧ (∃ _, _ ∧ (_))
          refine ⟨(((o_r0_11).mono hn1).mono hm2), r0_30, ea7, ?_⟩
          show G Γ m_MO_box (d + 1) (0, 0) Q 84 [.ref r0, .int x1, .int x2] [.int x1, .ref r0_30, .ref r0] μ2
          refine g_invV (M' := m_MO_weightOf) (b1 := 0) (b2 := 0) (As := [.ref r0_30, .int x1]) (a := r0) (st := []) lk_11_367 (by decide +kernel) rfl (dk_MO_weightOf d) (Nat.le_of_ble_eq_true rfl) (Or.inl ⟨11, (((o_r0_11).mono hn1).mono hm2), rfl⟩) h ?_
          rintro _ μ8 ⟨v8, rfl, h⟩ hn8
          show G Γ m_MO_box (d + 1) (0, 0) Q 87 [.ref r0, .int x1, .int x2] [.int v8] μ8
          exact g_reti (by decide +kernel) rfl h
        | 2, _, hc =>
          replace h := h.2.2 hc
          refine ⟨88, 45, rfl, by decide, ?_⟩
          show G Γ m_MO_box (d + 1) (0, 0) Q 88 [.ref r0, .int x1, .int x2] [] μ2
          obtain ⟨ea9, h⟩ := h
          obtain ⟨ib10, h⟩ := h
          refine run_ok (pc' := 99) [(.aload_n 0, 0, 0, 0), (.getfield 58, 11, 30, 2), (.bipush 40, 0, 0, 0), (.iaload, 0, 0, 0), (.iconst 1, 0, 0, 0), (.isub, 0, 0, 0), (.iload_n 1, 0, 0, 0), (.isub, 0, 0, 0)] _ _ _ _ (by decide +kernel) ?_
          show _ ∧ (∃ _, _ ∧ (_ ∧ (_)))
          refine ⟨(((o_r0_11).mono hn1).mono hm2), r0_30, ea9, ib10, ?_⟩
          show G Γ m_MO_box (d + 1) (0, 0) Q 99 [.ref r0, .int x1, .int x2] [.int (((xI μ2 r0_30 (w 40).toNatClampNeg) - (w 1)) - x1)] μ2
          exact g_reti (by decide +kernel) rfl h
        | k + 3, hk, _ => exact absurd hk (by omega)
    · replace h := h.1 hc
      show G Γ m_MO_box (d + 1) (0, 0) Q 40 [.ref r0, .int x1, .int x2] [] μ2
      refine run_ok (pc' := 41) [(.iconst 0, 0, 0, 0)] _ _ _ _ (by decide +kernel) ?_
      show G Γ m_MO_box (d + 1) (0, 0) Q 41 [.ref r0, .int x1, .int x2] [.int (w 0)] μ2
      exact g_reti (by decide +kernel) rfl h
  · replace h := h.2 hc
    show G Γ m_MO_box (d + 1) (0, 0) Q 13 [.ref r0, .int x1, .int x2] [.ref r0] μ1
    refine run_ok (pc' := 19) [(.iload_n 2, 0, 0, 0), (.i2l, 0, 0, 0), (.lconst 0, 0, 0, 0), (.ldc2_w 365, 0, 0, 6)] _ _ _ _ (by decide +kernel) ?_
    show G Γ m_MO_box (d + 1) (0, 0) Q 19 [.ref r0, .int x1, .int x2] [.long (wl 6), .long (wl 0), .long (x2.toInt64), .ref r0] μ1
    refine g_invS (M' := m_MO_isIn) (b1 := 0) (b2 := 0) (As := [.long (x2.toInt64), .long (wl 0), .long (wl 6)]) (st := [.ref r0]) lk_11_230 (by decide +kernel) rfl (dk_MO_isIn d) (Nat.le_of_ble_eq_true rfl) h ?_
    rintro _ μ11 ⟨v11, rfl, h⟩ hn11
    show G Γ m_MO_box (d + 1) (0, 0) Q 22 [.ref r0, .int x1, .int x2] [.int v11, .ref r0] μ11
    refine g_ifz_eq (pc' := 29) (off := 7) (by decide) (by decide +kernel) (fun hc => ?_) (fun hc => ?_)
    · replace h := h.1 hc
      show G Γ m_MO_box (d + 1) (0, 0) Q 29 [.ref r0, .int x1, .int x2] [.ref r0] μ11
      refine run_ok (pc' := 33) [(.iconst 1, 0, 0, 0), (.putfield 109, 11, 0, 0)] _ _ _ _ (by decide +kernel) ?_
      show _ ∧ (_)
      refine ⟨(((o_r0_11).mono hn1).mono hn11), ?_⟩
      show G Γ m_MO_box (d + 1) (0, 0) Q 33 [.ref r0, .int x1, .int x2] [] (sI μ11 r0 0 (w 1))
      obtain ⟨μ12, em12⟩ : ∃ m : XM, m = sI μ11 r0 0 (w 1) := ⟨_, rfl⟩
      replace h := h μ12 em12
      have hm12 : xN μ11 ≤ xN μ12 := by rw [em12]; exact Nat.le_refl _
      rw [← em12]
      refine run_ok (pc' := 37) [(.aload_n 0, 0, 0, 0), (.getfield 109, 11, 0, 0)] _ _ _ _ (by decide +kernel) ?_
      show _ ∧ (_)
      refine ⟨((((o_r0_11).mono hn1).mono hn11).mono hm12), ?_⟩
      show G Γ m_MO_box (d + 1) (0, 0) Q 37 [.ref r0, .int x1, .int x2] [.int (xI μ12 r0 0)] μ12
      refine g_ifz_le (pc' := 42) (off := 5) (by decide) (by decide +kernel) (fun hc => ?_) (fun hc => ?_)
      · replace h := h.2 hc
        show G Γ m_MO_box (d + 1) (0, 0) Q 42 [.ref r0, .int x1, .int x2] [] μ12
        refine run_ok (pc' := 43) [(.iload_n 2, 0, 0, 0)] _ _ _ _ (by decide +kernel) ?_
        show G Γ m_MO_box (d + 1) (0, 0) Q 43 [.ref r0, .int x1, .int x2] [.int x2] μ12
        refine g_sw (df := 57) (lo := 4) (n := 3) (offs := #[25, 35, 45]) (len := 25) (by decide +kernel) (by decide) (pd := 100) (by decide) (fun hc => ?_) (fun k hk hc => ?_)
        · replace h := h.1 hc
          show G Γ m_MO_box (d + 1) (0, 0) Q 100 [.ref r0, .int x1, .int x2] [] μ12
          obtain ⟨ea13, h⟩ := h
          obtain ⟨ib14, h⟩ := h
          refine run_ok (pc' := 110) [(.aload_n 0, 0, 0, 0), (.getfield 58, 11, 30, 2), (.iconst 5, 0, 0, 0), (.iload_n 1, 0, 0, 0), (.imul, 0, 0, 0), (.iload_n 2, 0, 0, 0), (.iadd, 0, 0, 0), (.iaload, 0, 0, 0)] _ _ _ _ (by decide +kernel) ?_
          show _ ∧ (∃ _, _ ∧ (_ ∧ (_)))
          refine ⟨((((o_r0_11).mono hn1).mono hn11).mono hm12), r0_30, ea13, ib14, ?_⟩
          show G Γ m_MO_box (d + 1) (0, 0) Q 110 [.ref r0, .int x1, .int x2] [.int (xI μ12 r0_30 (((w 5) * x1) + x2).toNatClampNeg)] μ12
          exact g_reti (by decide +kernel) rfl h
        · replace h := h.2
          match k, hk, hc with
          | 0, _, hc =>
            replace h := h.1 hc
            refine ⟨68, 25, rfl, by decide, ?_⟩
            show G Γ m_MO_box (d + 1) (0, 0) Q 68 [.ref r0, .int x1, .int x2] [] μ12
            obtain ⟨ea15, h⟩ := h
            refine run_ok (pc' := 74) [(.aload_n 0, 0, 0, 0), (.aload_n 0, 0, 0, 0), (.getfield 58, 11, 30, 2), (.iload_n 1, 0, 0, 0)] _ _ _ _ (by decide +kernel) ?_
            show _ ∧ (∃ _, _ ∧ (_))
            refine ⟨((((o_r0_11).mono hn1).mono hn11).mono hm12), r0_30, ea15, ?_⟩
            show G Γ m_MO_box (d + 1) (0, 0) Q 74 [.ref r0, .int x1, .int x2] [.int x1, .ref r0_30, .ref r0] μ12
            refine g_invV (M' := m_MO_valueOf) (b1 := 0) (b2 := 0) (As := [.ref r0_30, .int x1]) (a := r0) (st := []) lk_11_350 (by decide +kernel) rfl (dk_MO_valueOf d) (Nat.le_of_ble_eq_true rfl) (Or.inl ⟨11, ((((o_r0_11).mono hn1).mono hn11).mono hm12), rfl⟩) h ?_
            rintro _ μ16 ⟨v16, rfl, h⟩ hn16
            show G Γ m_MO_box (d + 1) (0, 0) Q 77 [.ref r0, .int x1, .int x2] [.int v16] μ16
            exact g_reti (by decide +kernel) rfl h
          | 1, _, hc =>
            replace h := h.2.1 hc
            refine ⟨78, 35, rfl, by decide, ?_⟩
            show G Γ m_MO_box (d + 1) (0, 0) Q 78 [.ref r0, .int x1, .int x2] [] μ12
            obtain ⟨ea17, h⟩ := h
            refine run_ok (pc' := 84) [(.aload_n 0, 0, 0, 0), (.aload_n 0, 0, 0, 0), (.getfield 58, 11, 30, 2), (.iload_n 1, 0, 0, 0)] _ _ _ _ (by decide +kernel) ?_
            show _ ∧ (∃ _, _ ∧ (_))
            refine ⟨((((o_r0_11).mono hn1).mono hn11).mono hm12), r0_30, ea17, ?_⟩
            show G Γ m_MO_box (d + 1) (0, 0) Q 84 [.ref r0, .int x1, .int x2] [.int x1, .ref r0_30, .ref r0] μ12
            refine g_invV (M' := m_MO_weightOf) (b1 := 0) (b2 := 0) (As := [.ref r0_30, .int x1]) (a := r0) (st := []) lk_11_367 (by decide +kernel) rfl (dk_MO_weightOf d) (Nat.le_of_ble_eq_true rfl) (Or.inl ⟨11, ((((o_r0_11).mono hn1).mono hn11).mono hm12), rfl⟩) h ?_
            rintro _ μ18 ⟨v18, rfl, h⟩ hn18
            show G Γ m_MO_box (d + 1) (0, 0) Q 87 [.ref r0, .int x1, .int x2] [.int v18] μ18
            exact g_reti (by decide +kernel) rfl h
          | 2, _, hc =>
            replace h := h.2.2 hc
            refine ⟨88, 45, rfl, by decide, ?_⟩
            show G Γ m_MO_box (d + 1) (0, 0) Q 88 [.ref r0, .int x1, .int x2] [] μ12
            obtain ⟨ea19, h⟩ := h
            obtain ⟨ib20, h⟩ := h
            refine run_ok (pc' := 99) [(.aload_n 0, 0, 0, 0), (.getfield 58, 11, 30, 2), (.bipush 40, 0, 0, 0), (.iaload, 0, 0, 0), (.iconst 1, 0, 0, 0), (.isub, 0, 0, 0), (.iload_n 1, 0, 0, 0), (.isub, 0, 0, 0)] _ _ _ _ (by decide +kernel) ?_
            show _ ∧ (∃ _, _ ∧ (_ ∧ (_)))
            refine ⟨((((o_r0_11).mono hn1).mono hn11).mono hm12), r0_30, ea19, ib20, ?_⟩
            show G Γ m_MO_box (d + 1) (0, 0) Q 99 [.ref r0, .int x1, .int x2] [.int (((xI μ12 r0_30 (w 40).toNatClampNeg) - (w 1)) - x1)] μ12
            exact g_reti (by decide +kernel) rfl h
          | k + 3, hk, _ => exact absurd hk (by omega)
      · replace h := h.1 hc
        show G Γ m_MO_box (d + 1) (0, 0) Q 40 [.ref r0, .int x1, .int x2] [] μ12
        refine run_ok (pc' := 41) [(.iconst 0, 0, 0, 0)] _ _ _ _ (by decide +kernel) ?_
        show G Γ m_MO_box (d + 1) (0, 0) Q 41 [.ref r0, .int x1, .int x2] [.int (w 0)] μ12
        exact g_reti (by decide +kernel) rfl h
    · replace h := h.2 hc
      show G Γ m_MO_box (d + 1) (0, 0) Q 25 [.ref r0, .int x1, .int x2] [.ref r0] μ11
      refine run_ok (pc' := 33) [(.iconst 0, 0, 0, 0), (.goto 4, 0, 0, 0), (.putfield 109, 11, 0, 0)] _ _ _ _ (by decide +kernel) ?_
      show _ ∧ (_)
      refine ⟨(((o_r0_11).mono hn1).mono hn11), ?_⟩
      show G Γ m_MO_box (d + 1) (0, 0) Q 33 [.ref r0, .int x1, .int x2] [] (sI μ11 r0 0 (w 0))
      obtain ⟨μ21, em21⟩ : ∃ m : XM, m = sI μ11 r0 0 (w 0) := ⟨_, rfl⟩
      replace h := h μ21 em21
      have hm21 : xN μ11 ≤ xN μ21 := by rw [em21]; exact Nat.le_refl _
      rw [← em21]
      refine run_ok (pc' := 37) [(.aload_n 0, 0, 0, 0), (.getfield 109, 11, 0, 0)] _ _ _ _ (by decide +kernel) ?_
      show _ ∧ (_)
      refine ⟨((((o_r0_11).mono hn1).mono hn11).mono hm21), ?_⟩
      show G Γ m_MO_box (d + 1) (0, 0) Q 37 [.ref r0, .int x1, .int x2] [.int (xI μ21 r0 0)] μ21
      refine g_ifz_le (pc' := 42) (off := 5) (by decide) (by decide +kernel) (fun hc => ?_) (fun hc => ?_)
      · replace h := h.2 hc
        show G Γ m_MO_box (d + 1) (0, 0) Q 42 [.ref r0, .int x1, .int x2] [] μ21
        refine run_ok (pc' := 43) [(.iload_n 2, 0, 0, 0)] _ _ _ _ (by decide +kernel) ?_
        show G Γ m_MO_box (d + 1) (0, 0) Q 43 [.ref r0, .int x1, .int x2] [.int x2] μ21
        refine g_sw (df := 57) (lo := 4) (n := 3) (offs := #[25, 35, 45]) (len := 25) (by decide +kernel) (by decide) (pd := 100) (by decide) (fun hc => ?_) (fun k hk hc => ?_)
        · replace h := h.1 hc
          show G Γ m_MO_box (d + 1) (0, 0) Q 100 [.ref r0, .int x1, .int x2] [] μ21
          obtain ⟨ea22, h⟩ := h
          obtain ⟨ib23, h⟩ := h
          refine run_ok (pc' := 110) [(.aload_n 0, 0, 0, 0), (.getfield 58, 11, 30, 2), (.iconst 5, 0, 0, 0), (.iload_n 1, 0, 0, 0), (.imul, 0, 0, 0), (.iload_n 2, 0, 0, 0), (.iadd, 0, 0, 0), (.iaload, 0, 0, 0)] _ _ _ _ (by decide +kernel) ?_
          show _ ∧ (∃ _, _ ∧ (_ ∧ (_)))
          refine ⟨((((o_r0_11).mono hn1).mono hn11).mono hm21), r0_30, ea22, ib23, ?_⟩
          show G Γ m_MO_box (d + 1) (0, 0) Q 110 [.ref r0, .int x1, .int x2] [.int (xI μ21 r0_30 (((w 5) * x1) + x2).toNatClampNeg)] μ21
          exact g_reti (by decide +kernel) rfl h
        · replace h := h.2
          match k, hk, hc with
          | 0, _, hc =>
            replace h := h.1 hc
            refine ⟨68, 25, rfl, by decide, ?_⟩
            show G Γ m_MO_box (d + 1) (0, 0) Q 68 [.ref r0, .int x1, .int x2] [] μ21
            obtain ⟨ea24, h⟩ := h
            refine run_ok (pc' := 74) [(.aload_n 0, 0, 0, 0), (.aload_n 0, 0, 0, 0), (.getfield 58, 11, 30, 2), (.iload_n 1, 0, 0, 0)] _ _ _ _ (by decide +kernel) ?_
            show _ ∧ (∃ _, _ ∧ (_))
            refine ⟨((((o_r0_11).mono hn1).mono hn11).mono hm21), r0_30, ea24, ?_⟩
            show G Γ m_MO_box (d + 1) (0, 0) Q 74 [.ref r0, .int x1, .int x2] [.int x1, .ref r0_30, .ref r0] μ21
            refine g_invV (M' := m_MO_valueOf) (b1 := 0) (b2 := 0) (As := [.ref r0_30, .int x1]) (a := r0) (st := []) lk_11_350 (by decide +kernel) rfl (dk_MO_valueOf d) (Nat.le_of_ble_eq_true rfl) (Or.inl ⟨11, ((((o_r0_11).mono hn1).mono hn11).mono hm21), rfl⟩) h ?_
            rintro _ μ25 ⟨v25, rfl, h⟩ hn25
            show G Γ m_MO_box (d + 1) (0, 0) Q 77 [.ref r0, .int x1, .int x2] [.int v25] μ25
            exact g_reti (by decide +kernel) rfl h
          | 1, _, hc =>
            replace h := h.2.1 hc
            refine ⟨78, 35, rfl, by decide, ?_⟩
            show G Γ m_MO_box (d + 1) (0, 0) Q 78 [.ref r0, .int x1, .int x2] [] μ21
            obtain ⟨ea26, h⟩ := h
            refine run_ok (pc' := 84) [(.aload_n 0, 0, 0, 0), (.aload_n 0, 0, 0, 0), (.getfield 58, 11, 30, 2), (.iload_n 1, 0, 0, 0)] _ _ _ _ (by decide +kernel) ?_
            show _ ∧ (∃ _, _ ∧ (_))
            refine ⟨((((o_r0_11).mono hn1).mono hn11).mono hm21), r0_30, ea26, ?_⟩
            show G Γ m_MO_box (d + 1) (0, 0) Q 84 [.ref r0, .int x1, .int x2] [.int x1, .ref r0_30, .ref r0] μ21
            refine g_invV (M' := m_MO_weightOf) (b1 := 0) (b2 := 0) (As := [.ref r0_30, .int x1]) (a := r0) (st := []) lk_11_367 (by decide +kernel) rfl (dk_MO_weightOf d) (Nat.le_of_ble_eq_true rfl) (Or.inl ⟨11, ((((o_r0_11).mono hn1).mono hn11).mono hm21), rfl⟩) h ?_
            rintro _ μ27 ⟨v27, rfl, h⟩ hn27
            show G Γ m_MO_box (d + 1) (0, 0) Q 87 [.ref r0, .int x1, .int x2] [.int v27] μ27
            exact g_reti (by decide +kernel) rfl h
          | 2, _, hc =>
            replace h := h.2.2 hc
            refine ⟨88, 45, rfl, by decide, ?_⟩
            show G Γ m_MO_box (d + 1) (0, 0) Q 88 [.ref r0, .int x1, .int x2] [] μ21
            obtain ⟨ea28, h⟩ := h
            obtain ⟨ib29, h⟩ := h
            refine run_ok (pc' := 99) [(.aload_n 0, 0, 0, 0), (.getfield 58, 11, 30, 2), (.bipush 40, 0, 0, 0), (.iaload, 0, 0, 0), (.iconst 1, 0, 0, 0), (.isub, 0, 0, 0), (.iload_n 1, 0, 0, 0), (.isub, 0, 0, 0)] _ _ _ _ (by decide +kernel) ?_
            show _ ∧ (∃ _, _ ∧ (_ ∧ (_)))
            refine ⟨((((o_r0_11).mono hn1).mono hn11).mono hm21), r0_30, ea28, ib29, ?_⟩
            show G Γ m_MO_box (d + 1) (0, 0) Q 99 [.ref r0, .int x1, .int x2] [.int (((xI μ21 r0_30 (w 40).toNatClampNeg) - (w 1)) - x1)] μ21
            exact g_reti (by decide +kernel) rfl h
          | k + 3, hk, _ => exact absurd hk (by omega)
      · replace h := h.1 hc
        show G Γ m_MO_box (d + 1) (0, 0) Q 40 [.ref r0, .int x1, .int x2] [] μ21
        refine run_ok (pc' := 41) [(.iconst 0, 0, 0, 0)] _ _ _ _ (by decide +kernel) ?_
        show G Γ m_MO_box (d + 1) (0, 0) Q 41 [.ref r0, .int x1, .int x2] [.int (w 0)] μ21
        exact g_reti (by decide +kernel) rfl h
/-! FrostBoxModel law(I)Z -/
set_option maxRecDepth 100000 in
theorem B_MO_law_0 {Γ : XG} {d : Nat} {Q : Option Value → XM → Prop} {r0 : Nat} {x1 : Int32} {μ : XM} (o_r0_11 : ob μ r0 11) (h : ∀ μ1, μ1 = sI μ r0 0 (w 0) → ((x1 = w (-1) → ∀ μ2, μ2 = sI μ1 r0 32 x1 → Q (some (.int (w 1))) μ2) ∧ (¬ x1 = w (-1) → Call Γ m_MO_isIn d [.long (x1.toInt64), .long (wl 0), .long (((xI μ1 r0 7) - (w 1)).toInt64)] μ1 (KI (fun v3 μ3 => ((v3 = w 0 → Q (some (.int (w 0))) μ3) ∧ (¬ v3 = w 0 → ∀ μ4, μ4 = sI μ3 r0 32 x1 → Q (some (.int (w 1))) μ4))))))) : G Γ m_MO_law (d + 1) (0, 0) Q 0 [.ref r0, .int x1] [] μ := by
  refine run_ok (pc' := 5) [(.aload_n 0, 0, 0, 0), (.iconst 0, 0, 0, 0), (.putfield 109, 11, 0, 0)] _ _ _ _ (by decide +kernel) ?_
  show _ ∧ (_)
  refine ⟨o_r0_11, ?_⟩
  show G Γ m_MO_law (d + 1) (0, 0) Q 5 [.ref r0, .int x1] [] (sI μ r0 0 (w 0))
  obtain ⟨μ1, em1⟩ : ∃ m : XM, m = sI μ r0 0 (w 0) := ⟨_, rfl⟩
  replace h := h μ1 em1
  have hm1 : xN μ ≤ xN μ1 := by rw [em1]; exact Nat.le_refl _
  rw [← em1]
  refine run_ok (pc' := 7) [(.iload_n 1, 0, 0, 0), (.iconst (-1), 0, 0, 0)] _ _ _ _ (by decide +kernel) ?_
  show G Γ m_MO_law (d + 1) (0, 0) Q 7 [.ref r0, .int x1] [.int (w (-1)), .int x1] μ1
  refine g_icmp_eq (pc' := 28) (off := 21) (by decide) (by decide +kernel) (fun hc => ?_) (fun hc => ?_)
  · replace h := h.1 hc
    show G Γ m_MO_law (d + 1) (0, 0) Q 28 [.ref r0, .int x1] [] μ1
    refine run_ok (pc' := 33) [(.aload_n 0, 0, 0, 0), (.iload_n 1, 0, 0, 0), (.putfield 64, 11, 32, 0)] _ _ _ _ (by decide +kernel) ?_
    show _ ∧ (_)
    refine ⟨((o_r0_11).mono hm1), ?_⟩
    show G Γ m_MO_law (d + 1) (0, 0) Q 33 [.ref r0, .int x1] [] (sI μ1 r0 32 x1)
    obtain ⟨μ2, em2⟩ : ∃ m : XM, m = sI μ1 r0 32 x1 := ⟨_, rfl⟩
    replace h := h μ2 em2
    have hm2 : xN μ1 ≤ xN μ2 := by rw [em2]; exact Nat.le_refl _
    rw [← em2]
    refine run_ok (pc' := 34) [(.iconst 1, 0, 0, 0)] _ _ _ _ (by decide +kernel) ?_
    show G Γ m_MO_law (d + 1) (0, 0) Q 34 [.ref r0, .int x1] [.int (w 1)] μ2
    exact g_retz (by decide +kernel) rfl (Or.inr rfl) h
  · replace h := h.2 hc
    show G Γ m_MO_law (d + 1) (0, 0) Q 10 [.ref r0, .int x1] [] μ1
    refine run_ok (pc' := 20) [(.iload_n 1, 0, 0, 0), (.i2l, 0, 0, 0), (.lconst 0, 0, 0, 0), (.aload_n 0, 0, 0, 0), (.getfield 299, 11, 7, 0), (.iconst 1, 0, 0, 0), (.isub, 0, 0, 0), (.i2l, 0, 0, 0)] _ _ _ _ (by decide +kernel) ?_
    show _ ∧ (_)
    refine ⟨((o_r0_11).mono hm1), ?_⟩
    show G Γ m_MO_law (d + 1) (0, 0) Q 20 [.ref r0, .int x1] [.long (((xI μ1 r0 7) - (w 1)).toInt64), .long (wl 0), .long (x1.toInt64)] μ1
    refine g_invS (M' := m_MO_isIn) (b1 := 0) (b2 := 0) (As := [.long (x1.toInt64), .long (wl 0), .long (((xI μ1 r0 7) - (w 1)).toInt64)]) (st := []) lk_11_230 (by decide +kernel) rfl (dk_MO_isIn d) (Nat.le_of_ble_eq_true rfl) h ?_
    rintro _ μ3 ⟨v3, rfl, h⟩ hn3
    show G Γ m_MO_law (d + 1) (0, 0) Q 23 [.ref r0, .int x1] [.int v3] μ3
    refine g_ifz_ne (pc' := 28) (off := 5) (by decide) (by decide +kernel) (fun hc => ?_) (fun hc => ?_)
    · replace h := h.2 hc
      show G Γ m_MO_law (d + 1) (0, 0) Q 28 [.ref r0, .int x1] [] μ3
      refine run_ok (pc' := 33) [(.aload_n 0, 0, 0, 0), (.iload_n 1, 0, 0, 0), (.putfield 64, 11, 32, 0)] _ _ _ _ (by decide +kernel) ?_
      show _ ∧ (_)
      refine ⟨(((o_r0_11).mono hm1).mono hn3), ?_⟩
      show G Γ m_MO_law (d + 1) (0, 0) Q 33 [.ref r0, .int x1] [] (sI μ3 r0 32 x1)
      obtain ⟨μ4, em4⟩ : ∃ m : XM, m = sI μ3 r0 32 x1 := ⟨_, rfl⟩
      replace h := h μ4 em4
      have hm4 : xN μ3 ≤ xN μ4 := by rw [em4]; exact Nat.le_refl _
      rw [← em4]
      refine run_ok (pc' := 34) [(.iconst 1, 0, 0, 0)] _ _ _ _ (by decide +kernel) ?_
      show G Γ m_MO_law (d + 1) (0, 0) Q 34 [.ref r0, .int x1] [.int (w 1)] μ4
      exact g_retz (by decide +kernel) rfl (Or.inr rfl) h
    · replace h := h.1 hc
      show G Γ m_MO_law (d + 1) (0, 0) Q 26 [.ref r0, .int x1] [] μ3
      refine run_ok (pc' := 27) [(.iconst 0, 0, 0, 0)] _ _ _ _ (by decide +kernel) ?_
      show G Γ m_MO_law (d + 1) (0, 0) Q 27 [.ref r0, .int x1] [.int (w 0)] μ3
      exact g_retz (by decide +kernel) rfl (Or.inl rfl) h
/-! FrostBoxModel habit(I)Z -/
set_option maxRecDepth 100000 in
theorem B_MO_habit_0 {Γ : XG} {d : Nat} {Q : Option Value → XM → Prop} {r0 : Nat} {x1 : Int32} {μ : XM} (o_r0_11 : ob μ r0 11) (h : ∀ μ1, μ1 = sI μ r0 0 (w 0) → Call Γ m_MO_isIn d [.long (x1.toInt64), .long (wl 0), .long (wl 9)] μ1 (KI (fun v2 μ2 => ((v2 = w 0 → Q (some (.int (w 0))) μ2) ∧ (¬ v2 = w 0 → ((x1 = xI μ2 r0 33 → Q (some (.int (w 0))) μ2) ∧ (¬ x1 = xI μ2 r0 33 → ∀ μ3, μ3 = sI μ2 r0 33 x1 → Q (some (.int (w 1))) μ3))))))) : G Γ m_MO_habit (d + 1) (0, 0) Q 0 [.ref r0, .int x1] [] μ := by
  refine run_ok (pc' := 5) [(.aload_n 0, 0, 0, 0), (.iconst 0, 0, 0, 0), (.putfield 109, 11, 0, 0)] _ _ _ _ (by decide +kernel) ?_
  show _ ∧ (_)
  refine ⟨o_r0_11, ?_⟩
  show G Γ m_MO_habit (d + 1) (0, 0) Q 5 [.ref r0, .int x1] [] (sI μ r0 0 (w 0))
  obtain ⟨μ1, em1⟩ : ∃ m : XM, m = sI μ r0 0 (w 0) := ⟨_, rfl⟩
  replace h := h μ1 em1
  have hm1 : xN μ ≤ xN μ1 := by rw [em1]; exact Nat.le_refl _
  rw [← em1]
  refine run_ok (pc' := 11) [(.iload_n 1, 0, 0, 0), (.i2l, 0, 0, 0), (.lconst 0, 0, 0, 0), (.ldc2_w 370, 0, 0, 9)] _ _ _ _ (by decide +kernel) ?_
  show G Γ m_MO_habit (d + 1) (0, 0) Q 11 [.ref r0, .int x1] [.long (wl 9), .long (wl 0), .long (x1.toInt64)] μ1
  refine g_invS (M' := m_MO_isIn) (b1 := 0) (b2 := 0) (As := [.long (x1.toInt64), .long (wl 0), .long (wl 9)]) (st := []) lk_11_230 (by decide +kernel) rfl (dk_MO_isIn d) (Nat.le_of_ble_eq_true rfl) h ?_
  rintro _ μ2 ⟨v2, rfl, h⟩ hn2
  show G Γ m_MO_habit (d + 1) (0, 0) Q 14 [.ref r0, .int x1] [.int v2] μ2
  refine g_ifz_eq (pc' := 25) (off := 11) (by decide) (by decide +kernel) (fun hc => ?_) (fun hc => ?_)
  · replace h := h.1 hc
    show G Γ m_MO_habit (d + 1) (0, 0) Q 25 [.ref r0, .int x1] [] μ2
    refine run_ok (pc' := 26) [(.iconst 0, 0, 0, 0)] _ _ _ _ (by decide +kernel) ?_
    show G Γ m_MO_habit (d + 1) (0, 0) Q 26 [.ref r0, .int x1] [.int (w 0)] μ2
    exact g_retz (by decide +kernel) rfl (Or.inl rfl) h
  · replace h := h.2 hc
    show G Γ m_MO_habit (d + 1) (0, 0) Q 17 [.ref r0, .int x1] [] μ2
    refine run_ok (pc' := 22) [(.iload_n 1, 0, 0, 0), (.aload_n 0, 0, 0, 0), (.getfield 68, 11, 33, 0)] _ _ _ _ (by decide +kernel) ?_
    show _ ∧ (_)
    refine ⟨(((o_r0_11).mono hm1).mono hn2), ?_⟩
    show G Γ m_MO_habit (d + 1) (0, 0) Q 22 [.ref r0, .int x1] [.int (xI μ2 r0 33), .int x1] μ2
    refine g_icmp_ne (pc' := 27) (off := 5) (by decide) (by decide +kernel) (fun hc => ?_) (fun hc => ?_)
    · replace h := h.2 hc
      show G Γ m_MO_habit (d + 1) (0, 0) Q 27 [.ref r0, .int x1] [] μ2
      refine run_ok (pc' := 32) [(.aload_n 0, 0, 0, 0), (.iload_n 1, 0, 0, 0), (.putfield 68, 11, 33, 0)] _ _ _ _ (by decide +kernel) ?_
      show _ ∧ (_)
      refine ⟨(((o_r0_11).mono hm1).mono hn2), ?_⟩
      show G Γ m_MO_habit (d + 1) (0, 0) Q 32 [.ref r0, .int x1] [] (sI μ2 r0 33 x1)
      obtain ⟨μ3, em3⟩ : ∃ m : XM, m = sI μ2 r0 33 x1 := ⟨_, rfl⟩
      replace h := h μ3 em3
      have hm3 : xN μ2 ≤ xN μ3 := by rw [em3]; exact Nat.le_refl _
      rw [← em3]
      refine run_ok (pc' := 33) [(.iconst 1, 0, 0, 0)] _ _ _ _ (by decide +kernel) ?_
      show G Γ m_MO_habit (d + 1) (0, 0) Q 33 [.ref r0, .int x1] [.int (w 1)] μ3
      exact g_retz (by decide +kernel) rfl (Or.inr rfl) h
    · replace h := h.1 hc
      show G Γ m_MO_habit (d + 1) (0, 0) Q 25 [.ref r0, .int x1] [] μ2
      refine run_ok (pc' := 26) [(.iconst 0, 0, 0, 0)] _ _ _ _ (by decide +kernel) ?_
      show G Γ m_MO_habit (d + 1) (0, 0) Q 26 [.ref r0, .int x1] [.int (w 0)] μ2
      exact g_retz (by decide +kernel) rfl (Or.inl rfl) h
