/-! BOX OF THE CLASS, where it returns (written by wip/tools/genbj.py) -/
def m_FB_box : MM := (10, ⟨"FrostBox", "box", "(II)I"⟩, prog_1_method_14_code, 4, some .int, 1, 6)
theorem ok_FB_box : mOK m_FB_box := ⟨by decide +kernel, by decide +kernel⟩
theorem dk_FB_box (d : Nat) : dOK (d + 1) d m_FB_box := ⟨Nat.le_refl _, by show 19 + 4 + 40 * d ≤ 40 * (d + 1); omega⟩
set_option maxRecDepth 100000 in
theorem lc_FB_box : LkC m_FB_box 2 := ⟨lwG_in (List.mem_of_getElem? (i := 1136) rfl) rfl, lwG_in (List.mem_of_getElem? (i := 113) rfl) rfl, by decide +kernel, by decide +kernel, by decide +kernel⟩
set_option maxRecDepth 100000 in
theorem B_FB_box_0 {Γ : XG} {d : Nat} {Q : Option Value → XM → Prop} {r0 r0_9 : Nat} {x1 x2 : Int32} {μ : XM} (o_r0_10 : ob μ r0 10) (e_r0_9 : xR μ r0 9 = some r0_9) (o_r0_9_6 : ob μ r0_9 6) (h : Call Γ m_Pi_hasPlace d [.ref r0_9, .int x1] μ (KI (fun v1 μ1 => ((v1 = w 0 → G Γ m_FB_box (d + 1) (1, 6) Q 21 [] [] μ1) ∧ (¬ v1 = w 0 → ((x2 < w 0 → G Γ m_FB_box (d + 1) (1, 6) Q 21 [] [] μ1) ∧ (¬ x2 < w 0 → ((w 6 < x2 → G Γ m_FB_box (d + 1) (1, 6) Q 21 [] [] μ1) ∧ (¬ w 6 < x2 → xR μ1 r0 9 = some r0_9 ∧ Call Γ m_Pi_indexOf d [.ref r0_9, .int x1] μ1 (KI (fun v3 μ3 => (((x2 < w 0 ∨ w 5 < x2) → Q (some (.int v3)) μ3) ∧ (x2 = w 0 → xR μ3 r0 9 = some r0_9 ∧ ∃ a5, xR μ3 r0_9 0 = some a5 ∧ inb μ3 0 a5 v3 ∧ Q (some (.int (xI μ3 a5 v3.toNatClampNeg))) μ3) ∧ (x2 = w 1 → xR μ3 r0 9 = some r0_9 ∧ ∃ a8, xR μ3 r0_9 1 = some a8 ∧ inb μ3 0 a8 v3 ∧ Q (some (.int (xI μ3 a8 v3.toNatClampNeg))) μ3) ∧ (x2 = w 2 → xR μ3 r0 9 = some r0_9 ∧ ∃ a11, xR μ3 r0_9 2 = some a11 ∧ inb μ3 0 a11 v3 ∧ Q (some (.int (xI μ3 a11 v3.toNatClampNeg))) μ3) ∧ (x2 = w 3 → xR μ3 r0 9 = some r0_9 ∧ Call Γ m_Pi_hasLabel d [.ref r0_9, .int v3] μ3 (KI (fun v14 μ14 => ((v14 = w 0 → Q (some (.int (w 0))) μ14) ∧ (¬ v14 = w 0 → Q (some (.int (w 1))) μ14))))) ∧ (x2 = w 4 → xR μ3 r0 9 = some r0_9 ∧ Call Γ m_FB_valueOf d [.ref r0, .ref r0_9, .int v3] μ3 (KI (fun v16 μ16 => Q (some (.int v16)) μ16))) ∧ (x2 = w 5 → Call Γ m_FB_weightOf d [.ref r0, .int v3] μ3 (KI (fun v17 μ17 => Q (some (.int v17)) μ17))))))))))))))) : G Γ m_FB_box (d + 1) (1, 6) Q 0 [.ref r0, .int x1, .int x2] [] μ := by
  refine run_ok (pc' := 5) [(.aload_n 0, 0, 0, 0), (.getfield 48, 10, 9, 2), (.iload_n 1, 0, 0, 0)] _ _ _ _ (by decide +kernel) ?_
  show _ ∧ (∃ _, _ ∧ (_))
  refine ⟨o_r0_10, r0_9, e_r0_9, ?_⟩
  show G Γ m_FB_box (d + 1) (1, 6) Q 5 [.ref r0, .int x1, .int x2] [.int x1, .ref r0_9] μ
  refine g_invV (M' := m_Pi_hasPlace) (b1 := 1) (b2 := 6) (As := [.int x1]) (a := r0_9) (st := []) lk_10_176 (by decide +kernel) rfl (dk_Pi_hasPlace d) (Nat.le_of_ble_eq_true rfl) (Or.inl ⟨6, o_r0_9_6, rfl⟩) h ?_
  rintro _ μ1 ⟨v1, rfl, h⟩ hn1
  show G Γ m_FB_box (d + 1) (1, 6) Q 8 [.ref r0, .int x1, .int x2] [.int v1] μ1
  refine g_ifz_eq (pc' := 21) (off := 13) (by decide) (by decide +kernel) (fun hc => ?_) (fun hc => ?_)
  · replace h := h.1 hc
    show G Γ m_FB_box (d + 1) (1, 6) Q 21 [.ref r0, .int x1, .int x2] [] μ1
    exact g_wk (ls' := []) trivial h
  · replace h := h.2 hc
    show G Γ m_FB_box (d + 1) (1, 6) Q 11 [.ref r0, .int x1, .int x2] [] μ1
    refine run_ok (pc' := 12) [(.iload_n 2, 0, 0, 0)] _ _ _ _ (by decide +kernel) ?_
    show G Γ m_FB_box (d + 1) (1, 6) Q 12 [.ref r0, .int x1, .int x2] [.int x2] μ1
    refine g_ifz_lt (pc' := 21) (off := 9) (by decide) (by decide +kernel) (fun hc => ?_) (fun hc => ?_)
    · replace h := h.1 hc
      show G Γ m_FB_box (d + 1) (1, 6) Q 21 [.ref r0, .int x1, .int x2] [] μ1
      exact g_wk (ls' := []) trivial h
    · replace h := h.2 hc
      show G Γ m_FB_box (d + 1) (1, 6) Q 15 [.ref r0, .int x1, .int x2] [] μ1
      refine run_ok (pc' := 18) [(.iload_n 2, 0, 0, 0), (.bipush 6, 0, 0, 0)] _ _ _ _ (by decide +kernel) ?_
      show G Γ m_FB_box (d + 1) (1, 6) Q 18 [.ref r0, .int x1, .int x2] [.int (w 6), .int x2] μ1
      refine g_icmp_le (pc' := 29) (off := 11) (by decide) (by decide +kernel) (fun hc => ?_) (fun hc => ?_)
      · replace h := h.2 hc
        show G Γ m_FB_box (d + 1) (1, 6) Q 29 [.ref r0, .int x1, .int x2] [] μ1
        obtain ⟨ea2, h⟩ := h
        refine run_ok (pc' := 34) [(.aload_n 0, 0, 0, 0), (.getfield 48, 10, 9, 2), (.iload_n 1, 0, 0, 0)] _ _ _ _ (by decide +kernel) ?_
        show _ ∧ (∃ _, _ ∧ (_))
        refine ⟨((o_r0_10).mono hn1), r0_9, ea2, ?_⟩
        show G Γ m_FB_box (d + 1) (1, 6) Q 34 [.ref r0, .int x1, .int x2] [.int x1, .ref r0_9] μ1
        refine g_invV (M' := m_Pi_indexOf) (b1 := 1) (b2 := 6) (As := [.int x1]) (a := r0_9) (st := []) lk_10_182 (by decide +kernel) rfl (dk_Pi_indexOf d) (Nat.le_of_ble_eq_true rfl) (Or.inl ⟨6, ((o_r0_9_6).mono hn1), rfl⟩) h ?_
        rintro _ μ3 ⟨v3, rfl, h⟩ hn3
        show G Γ m_FB_box (d + 1) (1, 6) Q 37 [.ref r0, .int x1, .int x2] [.int v3] μ3
        refine run_ok (pc' := 39) [(.istore_n 3, 0, 0, 0), (.iload_n 2, 0, 0, 0)] _ _ _ _ (by decide +kernel) ?_
        show G Γ m_FB_box (d + 1) (1, 6) Q 39 [.ref r0, .int x1, .int x2, .int v3] [.int x2] μ3
        refine g_sw (df := 100) (lo := 0) (n := 6) (offs := #[37, 47, 57, 67, 84, 94]) (len := 37) (by decide +kernel) (by decide) (pd := 139) (by decide) (fun hc => ?_) (fun k hk hc => ?_)
        · replace h := h.1 hc
          show G Γ m_FB_box (d + 1) (1, 6) Q 139 [.ref r0, .int x1, .int x2, .int v3] [] μ3
          refine run_ok (pc' := 140) [(.iload_n 3, 0, 0, 0)] _ _ _ _ (by decide +kernel) ?_
          show G Γ m_FB_box (d + 1) (1, 6) Q 140 [.ref r0, .int x1, .int x2, .int v3] [.int v3] μ3
          exact g_reti (by decide +kernel) rfl h
        · replace h := h.2
          match k, hk, hc with
          | 0, _, hc =>
            replace h := h.1 hc
            refine ⟨76, 37, rfl, by decide, ?_⟩
            show G Γ m_FB_box (d + 1) (1, 6) Q 76 [.ref r0, .int x1, .int x2, .int v3] [] μ3
            obtain ⟨ea4, h⟩ := h
            obtain ⟨a5, ea5, h⟩ := h
            obtain ⟨ib6, h⟩ := h
            refine run_ok (pc' := 85) [(.aload_n 0, 0, 0, 0), (.getfield 48, 10, 9, 2), (.getfield 185, 6, 0, 2), (.iload_n 3, 0, 0, 0), (.iaload, 0, 0, 0)] _ _ _ _ (by decide +kernel) ?_
            show _ ∧ (∃ _, _ ∧ (_ ∧ (∃ _, _ ∧ (_ ∧ (_)))))
            refine ⟨(((o_r0_10).mono hn1).mono hn3), r0_9, ea4, (((o_r0_9_6).mono hn1).mono hn3), a5, ea5, ib6, ?_⟩
            show G Γ m_FB_box (d + 1) (1, 6) Q 85 [.ref r0, .int x1, .int x2, .int v3] [.int (xI μ3 a5 v3.toNatClampNeg)] μ3
            exact g_reti (by decide +kernel) rfl h
          | 1, _, hc =>
            replace h := h.2.1 hc
            refine ⟨86, 47, rfl, by decide, ?_⟩
            show G Γ m_FB_box (d + 1) (1, 6) Q 86 [.ref r0, .int x1, .int x2, .int v3] [] μ3
            obtain ⟨ea7, h⟩ := h
            obtain ⟨a8, ea8, h⟩ := h
            obtain ⟨ib9, h⟩ := h
            refine run_ok (pc' := 95) [(.aload_n 0, 0, 0, 0), (.getfield 48, 10, 9, 2), (.getfield 187, 6, 1, 2), (.iload_n 3, 0, 0, 0), (.iaload, 0, 0, 0)] _ _ _ _ (by decide +kernel) ?_
            show _ ∧ (∃ _, _ ∧ (_ ∧ (∃ _, _ ∧ (_ ∧ (_)))))
            refine ⟨(((o_r0_10).mono hn1).mono hn3), r0_9, ea7, (((o_r0_9_6).mono hn1).mono hn3), a8, ea8, ib9, ?_⟩
            show G Γ m_FB_box (d + 1) (1, 6) Q 95 [.ref r0, .int x1, .int x2, .int v3] [.int (xI μ3 a8 v3.toNatClampNeg)] μ3
            exact g_reti (by decide +kernel) rfl h
          | 2, _, hc =>
            replace h := h.2.2.1 hc
            refine ⟨96, 57, rfl, by decide, ?_⟩
            show G Γ m_FB_box (d + 1) (1, 6) Q 96 [.ref r0, .int x1, .int x2, .int v3] [] μ3
            obtain ⟨ea10, h⟩ := h
            obtain ⟨a11, ea11, h⟩ := h
            obtain ⟨ib12, h⟩ := h
            refine run_ok (pc' := 105) [(.aload_n 0, 0, 0, 0), (.getfield 48, 10, 9, 2), (.getfield 190, 6, 2, 2), (.iload_n 3, 0, 0, 0), (.iaload, 0, 0, 0)] _ _ _ _ (by decide +kernel) ?_
            show _ ∧ (∃ _, _ ∧ (_ ∧ (∃ _, _ ∧ (_ ∧ (_)))))
            refine ⟨(((o_r0_10).mono hn1).mono hn3), r0_9, ea10, (((o_r0_9_6).mono hn1).mono hn3), a11, ea11, ib12, ?_⟩
            show G Γ m_FB_box (d + 1) (1, 6) Q 105 [.ref r0, .int x1, .int x2, .int v3] [.int (xI μ3 a11 v3.toNatClampNeg)] μ3
            exact g_reti (by decide +kernel) rfl h
          | 3, _, hc =>
            replace h := h.2.2.2.1 hc
            refine ⟨106, 67, rfl, by decide, ?_⟩
            show G Γ m_FB_box (d + 1) (1, 6) Q 106 [.ref r0, .int x1, .int x2, .int v3] [] μ3
            obtain ⟨ea13, h⟩ := h
            refine run_ok (pc' := 111) [(.aload_n 0, 0, 0, 0), (.getfield 48, 10, 9, 2), (.iload_n 3, 0, 0, 0)] _ _ _ _ (by decide +kernel) ?_
            show _ ∧ (∃ _, _ ∧ (_))
            refine ⟨(((o_r0_10).mono hn1).mono hn3), r0_9, ea13, ?_⟩
            show G Γ m_FB_box (d + 1) (1, 6) Q 111 [.ref r0, .int x1, .int x2, .int v3] [.int v3, .ref r0_9] μ3
            refine g_invV (M' := m_Pi_hasLabel) (b1 := 1) (b2 := 6) (As := [.int v3]) (a := r0_9) (st := []) lk_10_193 (by decide +kernel) rfl (dk_Pi_hasLabel d) (Nat.le_of_ble_eq_true rfl) (Or.inl ⟨6, (((o_r0_9_6).mono hn1).mono hn3), rfl⟩) h ?_
            rintro _ μ14 ⟨v14, rfl, h⟩ hn14
            show G Γ m_FB_box (d + 1) (1, 6) Q 114 [.ref r0, .int x1, .int x2, .int v3] [.int v14] μ14
            refine g_ifz_eq (pc' := 121) (off := 7) (by decide) (by decide +kernel) (fun hc => ?_) (fun hc => ?_)
            · replace h := h.1 hc
              show G Γ m_FB_box (d + 1) (1, 6) Q 121 [.ref r0, .int x1, .int x2, .int v3] [] μ14
              refine run_ok (pc' := 122) [(.iconst 0, 0, 0, 0)] _ _ _ _ (by decide +kernel) ?_
              show G Γ m_FB_box (d + 1) (1, 6) Q 122 [.ref r0, .int x1, .int x2, .int v3] [.int (w 0)] μ14
              exact g_reti (by decide +kernel) rfl h
            · replace h := h.2 hc
              show G Γ m_FB_box (d + 1) (1, 6) Q 117 [.ref r0, .int x1, .int x2, .int v3] [] μ14
              refine run_ok (pc' := 122) [(.iconst 1, 0, 0, 0), (.goto 4, 0, 0, 0)] _ _ _ _ (by decide +kernel) ?_
              show G Γ m_FB_box (d + 1) (1, 6) Q 122 [.ref r0, .int x1, .int x2, .int v3] [.int (w 1)] μ14
              exact g_reti (by decide +kernel) rfl h
          | 4, _, hc =>
            replace h := h.2.2.2.2.1 hc
            refine ⟨123, 84, rfl, by decide, ?_⟩
            show G Γ m_FB_box (d + 1) (1, 6) Q 123 [.ref r0, .int x1, .int x2, .int v3] [] μ3
            obtain ⟨ea15, h⟩ := h
            refine run_ok (pc' := 129) [(.aload_n 0, 0, 0, 0), (.aload_n 0, 0, 0, 0), (.getfield 48, 10, 9, 2), (.iload_n 3, 0, 0, 0)] _ _ _ _ (by decide +kernel) ?_
            show _ ∧ (∃ _, _ ∧ (_))
            refine ⟨(((o_r0_10).mono hn1).mono hn3), r0_9, ea15, ?_⟩
            show G Γ m_FB_box (d + 1) (1, 6) Q 129 [.ref r0, .int x1, .int x2, .int v3] [.int v3, .ref r0_9, .ref r0] μ3
            refine g_invV (M' := m_FB_valueOf) (b1 := 1) (b2 := 6) (As := [.ref r0_9, .int v3]) (a := r0) (st := []) lk_10_196 (by decide +kernel) rfl (dk_FB_valueOf d) (Nat.le_of_ble_eq_true rfl) (Or.inl ⟨10, (((o_r0_10).mono hn1).mono hn3), rfl⟩) h ?_
            rintro _ μ16 ⟨v16, rfl, h⟩ hn16
            show G Γ m_FB_box (d + 1) (1, 6) Q 132 [.ref r0, .int x1, .int x2, .int v3] [.int v16] μ16
            exact g_reti (by decide +kernel) rfl h
          | 5, _, hc =>
            replace h := h.2.2.2.2.2 hc
            refine ⟨133, 94, rfl, by decide, ?_⟩
            show G Γ m_FB_box (d + 1) (1, 6) Q 133 [.ref r0, .int x1, .int x2, .int v3] [] μ3
            refine run_ok (pc' := 135) [(.aload_n 0, 0, 0, 0), (.iload_n 3, 0, 0, 0)] _ _ _ _ (by decide +kernel) ?_
            show G Γ m_FB_box (d + 1) (1, 6) Q 135 [.ref r0, .int x1, .int x2, .int v3] [.int v3, .ref r0] μ3
            refine g_invV (M' := m_FB_weightOf) (b1 := 1) (b2 := 6) (As := [.int v3]) (a := r0) (st := []) lk_10_200 (by decide +kernel) rfl (dk_FB_weightOf d) (Nat.le_of_ble_eq_true rfl) (Or.inl ⟨10, (((o_r0_10).mono hn1).mono hn3), rfl⟩) h ?_
            rintro _ μ17 ⟨v17, rfl, h⟩ hn17
            show G Γ m_FB_box (d + 1) (1, 6) Q 138 [.ref r0, .int x1, .int x2, .int v3] [.int v17] μ17
            exact g_reti (by decide +kernel) rfl h
          | k + 6, hk, _ => exact absurd hk (by omega)
      · replace h := h.1 hc
        show G Γ m_FB_box (d + 1) (1, 6) Q 21 [.ref r0, .int x1, .int x2] [] μ1
        exact g_wk (ls' := []) trivial h
