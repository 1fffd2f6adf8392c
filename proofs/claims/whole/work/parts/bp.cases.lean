/-! THE LAW'S CASES, first half (written by wip/tools/genbo.py) -/
set_option maxRecDepth 100000 in
theorem lk_12_19 : LkV 12 19 m_FB_feed 5 := ⟨lc_FB_feed, lwG_in (List.mem_of_getElem? (i := 452) rfl) rfl, lwG_in (List.mem_of_getElem? (i := 453) rfl) rfl, lwG_in (List.mem_of_getElem? (i := 454) rfl) rfl⟩
set_option maxRecDepth 100000 in
theorem lk_12_23 : LkV 12 23 m_MO_feed 5 := ⟨lc_MO_feed, lwG_in (List.mem_of_getElem? (i := 1381) rfl) rfl, lwG_in (List.mem_of_getElem? (i := 1382) rfl) rfl, lwG_in (List.mem_of_getElem? (i := 1383) rfl) rfl⟩
set_option maxRecDepth 100000 in
theorem LW_case0 {Γ : XG} {c b1 b2 : Nat} {Q : Option Value → XM → Prop} {μ : XM} {xs : Nat → Int32} (hf : FM Γ) (hc : c ≤ 511) (hL : 6 * c + 6 ≤ Γ.2.2.2.2.2.2) (h3 : Γ.2.2.2.2.2.2 ≤ 3072) (hK : KS xs μ c) (next : ∀ μ2, KS xs μ2 (c + 1) → G Γ m_LW_law 63 (b1, b2) Q 1689 [.ref 31, .ref 32, .ref 547, .ref 573, .int (w ((6 * c : Nat) : Int))] [] μ2) : G Γ m_LW_law 63 (b1 + 1, b2 + 6) Q 240 [.ref 31, .ref 32, .ref 547, .ref 573, .int (w ((6 * c : Nat) : Int))] [] μ := by
  have hN := hK.N
  refine run_ok (pc' := 241) [(.aload_n 1, 0, 0, 0)] _ _ _ _ (by decide +kernel) ?_
  show G Γ m_LW_law 63 (b1 + 1, b2 + 6) Q 241 [.ref 31, .ref 32, .ref 547, .ref 573, .int (w ((6 * c : Nat) : Int))] [.ref 32] μ
  refine g_arg 1 (by decide +kernel) (by decide) hL h3 hN.2 ?_
  show G Γ m_LW_law 63 (b1 + 1, b2 + 6) Q 247 [.ref 31, .ref 32, .ref 547, .ref 573, .int (w ((6 * c : Nat) : Int))] [.int (xs (6 * c + 1)), .ref 32] μ
  refine g_arg 2 (by decide +kernel) (by decide) hL h3 hN.2 ?_
  show G Γ m_LW_law 63 (b1 + 1, b2 + 6) Q 253 [.ref 31, .ref 32, .ref 547, .ref 573, .int (w ((6 * c : Nat) : Int))] [.int (xs (6 * c + 2)), .int (xs (6 * c + 1)), .ref 32] μ
  refine g_arg 3 (by decide +kernel) (by decide) hL h3 hN.2 ?_
  show G Γ m_LW_law 63 (b1 + 1, b2 + 6) Q 259 [.ref 31, .ref 32, .ref 547, .ref 573, .int (w ((6 * c : Nat) : Int))] [.int (xs (6 * c + 3)), .int (xs (6 * c + 2)), .int (xs (6 * c + 1)), .ref 32] μ
  refine g_arg 4 (by decide +kernel) (by decide) hL h3 hN.2 ?_
  show G Γ m_LW_law 63 (b1 + 1, b2 + 6) Q 265 [.ref 31, .ref 32, .ref 547, .ref 573, .int (w ((6 * c : Nat) : Int))] [.int (xs (6 * c + 4)), .int (xs (6 * c + 3)), .int (xs (6 * c + 2)), .int (xs (6 * c + 1)), .ref 32] μ
  refine g_arg 5 (by decide +kernel) (by decide) hL h3 hN.2 ?_
  show G Γ m_LW_law 63 (b1 + 1, b2 + 6) Q 271 [.ref 31, .ref 32, .ref 547, .ref 573, .int (w ((6 * c : Nat) : Int))] [.int (xs (6 * c + 5)), .int (xs (6 * c + 4)), .int (xs (6 * c + 3)), .int (xs (6 * c + 2)), .int (xs (6 * c + 1)), .ref 32] μ
  refine g_invV (M := m_LW_law) (i := 19) (M' := m_FB_feed) (b1 := b1 + 1) (b2 := b2 + 6) (As := [.int (xs (6 * c + 1)), .int (xs (6 * c + 2)), .int (xs (6 * c + 3)), .int (xs (6 * c + 4)), .int (xs (6 * c + 5))]) (a := 32) (st := []) lk_12_19 (by decide +kernel) rfl (dk_FB_feed 62) (Nat.le_of_ble_eq_true rfl) (Or.inl ⟨10, ob32 hN.1, rfl⟩) (S_feed hf (by decide) (by omega) hK (xs (6 * c + 1)) (xs (6 * c + 2)) (xs (6 * c + 3)) (xs (6 * c + 4)) (xs (6 * c + 5))) ?_
  rintro _ μ1 ⟨r, rfl, hx1, hc1⟩ hn1
  show G Γ m_LW_law 63 (b1 + 1, b2 + 6) Q 274 [.ref 31, .ref 32, .ref 547, .ref 573, .int (w ((6 * c : Nat) : Int))] [.int r] μ1
  refine run_ok (pc' := 275) [(.aload_n 2, 0, 0, 0)] _ _ _ _ (by decide +kernel) ?_
  show G Γ m_LW_law 63 (b1 + 1, b2 + 6) Q 275 [.ref 31, .ref 32, .ref 547, .ref 573, .int (w ((6 * c : Nat) : Int))] [.ref 547, .int r] μ1
  refine g_arg 1 (by decide +kernel) (by decide) hL h3 hx1 ?_
  show G Γ m_LW_law 63 (b1 + 1, b2 + 6) Q 281 [.ref 31, .ref 32, .ref 547, .ref 573, .int (w ((6 * c : Nat) : Int))] [.int (xs (6 * c + 1)), .ref 547, .int r] μ1
  refine g_arg 2 (by decide +kernel) (by decide) hL h3 hx1 ?_
  show G Γ m_LW_law 63 (b1 + 1, b2 + 6) Q 287 [.ref 31, .ref 32, .ref 547, .ref 573, .int (w ((6 * c : Nat) : Int))] [.int (xs (6 * c + 2)), .int (xs (6 * c + 1)), .ref 547, .int r] μ1
  refine g_arg 3 (by decide +kernel) (by decide) hL h3 hx1 ?_
  show G Γ m_LW_law 63 (b1 + 1, b2 + 6) Q 293 [.ref 31, .ref 32, .ref 547, .ref 573, .int (w ((6 * c : Nat) : Int))] [.int (xs (6 * c + 3)), .int (xs (6 * c + 2)), .int (xs (6 * c + 1)), .ref 547, .int r] μ1
  refine g_arg 4 (by decide +kernel) (by decide) hL h3 hx1 ?_
  show G Γ m_LW_law 63 (b1 + 1, b2 + 6) Q 299 [.ref 31, .ref 32, .ref 547, .ref 573, .int (w ((6 * c : Nat) : Int))] [.int (xs (6 * c + 4)), .int (xs (6 * c + 3)), .int (xs (6 * c + 2)), .int (xs (6 * c + 1)), .ref 547, .int r] μ1
  refine g_arg 5 (by decide +kernel) (by decide) hL h3 hx1 ?_
  show G Γ m_LW_law 63 (b1 + 1, b2 + 6) Q 305 [.ref 31, .ref 32, .ref 547, .ref 573, .int (w ((6 * c : Nat) : Int))] [.int (xs (6 * c + 5)), .int (xs (6 * c + 4)), .int (xs (6 * c + 3)), .int (xs (6 * c + 2)), .int (xs (6 * c + 1)), .ref 547, .int r] μ1
  refine g_invV (M := m_LW_law) (i := 23) (M' := m_MO_feed) (b1 := b1 + 1) (b2 := b2 + 6) (As := [.int (xs (6 * c + 1)), .int (xs (6 * c + 2)), .int (xs (6 * c + 3)), .int (xs (6 * c + 4)), .int (xs (6 * c + 5))]) (a := 547) (st := [.int r]) lk_12_23 (by decide +kernel) rfl (dk_MO_feed 62) (Nat.le_of_ble_eq_true rfl) (Or.inl ⟨11, ob546 (Nat.le_trans hN.1 hn1), rfl⟩) hc1 ?_
  rintro _ μ2 ⟨r2, rfl, e2, hK2⟩ hn2
  subst e2
  show G Γ m_LW_law 63 (b1 + 1, b2 + 6) Q 308 [.ref 31, .ref 32, .ref 547, .ref 573, .int (w ((6 * c : Nat) : Int))] [.int r2, .int r2] μ2
  exact g_icmp_eq (pc' := 1689) (off := 1381) (by decide) (by decide +kernel) (fun _ => g_less (next μ2 hK2)) (fun z => absurd rfl z)
set_option maxRecDepth 100000 in
theorem lk_12_24 : LkV 12 24 m_FB_end 1 := ⟨lc_FB_end, lwG_in (List.mem_of_getElem? (i := 463) rfl) rfl, lwG_in (List.mem_of_getElem? (i := 464) rfl) rfl, lwG_in (List.mem_of_getElem? (i := 465) rfl) rfl⟩
set_option maxRecDepth 100000 in
theorem lk_12_28 : LkV 12 28 m_MO_end 1 := ⟨lc_MO_end, lwG_in (List.mem_of_getElem? (i := 1392) rfl) rfl, lwG_in (List.mem_of_getElem? (i := 1393) rfl) rfl, lwG_in (List.mem_of_getElem? (i := 1394) rfl) rfl⟩
set_option maxRecDepth 100000 in
theorem LW_case1 {Γ : XG} {c b1 b2 : Nat} {Q : Option Value → XM → Prop} {μ : XM} {xs : Nat → Int32} (hf : FM Γ) (hc : c ≤ 511) (hL : 6 * c + 6 ≤ Γ.2.2.2.2.2.2) (h3 : Γ.2.2.2.2.2.2 ≤ 3072) (hK : KS xs μ c) (next : ∀ μ2, KS xs μ2 (c + 1) → G Γ m_LW_law 63 (b1, b2) Q 1689 [.ref 31, .ref 32, .ref 547, .ref 573, .int (w ((6 * c : Nat) : Int))] [] μ2) : G Γ m_LW_law 63 (b1 + 1, b2 + 6) Q 313 [.ref 31, .ref 32, .ref 547, .ref 573, .int (w ((6 * c : Nat) : Int))] [] μ := by
  have hN := hK.N
  refine run_ok (pc' := 314) [(.aload_n 1, 0, 0, 0)] _ _ _ _ (by decide +kernel) ?_
  show G Γ m_LW_law 63 (b1 + 1, b2 + 6) Q 314 [.ref 31, .ref 32, .ref 547, .ref 573, .int (w ((6 * c : Nat) : Int))] [.ref 32] μ
  refine g_arg 1 (by decide +kernel) (by decide) hL h3 hN.2 ?_
  show G Γ m_LW_law 63 (b1 + 1, b2 + 6) Q 320 [.ref 31, .ref 32, .ref 547, .ref 573, .int (w ((6 * c : Nat) : Int))] [.int (xs (6 * c + 1)), .ref 32] μ
  refine g_invV (M := m_LW_law) (i := 24) (M' := m_FB_end) (b1 := b1 + 1) (b2 := b2 + 6) (As := [.int (xs (6 * c + 1))]) (a := 32) (st := []) lk_12_24 (by decide +kernel) rfl (dk_FB_end 62) (Nat.le_of_ble_eq_true rfl) (Or.inl ⟨10, ob32 hN.1, rfl⟩) (S_end hf (by decide) (by omega) hK (xs (6 * c + 1))) ?_
  rintro _ μ1 ⟨r, rfl, hx1, hc1⟩ hn1
  show G Γ m_LW_law 63 (b1 + 1, b2 + 6) Q 323 [.ref 31, .ref 32, .ref 547, .ref 573, .int (w ((6 * c : Nat) : Int))] [.int r] μ1
  refine run_ok (pc' := 324) [(.aload_n 2, 0, 0, 0)] _ _ _ _ (by decide +kernel) ?_
  show G Γ m_LW_law 63 (b1 + 1, b2 + 6) Q 324 [.ref 31, .ref 32, .ref 547, .ref 573, .int (w ((6 * c : Nat) : Int))] [.ref 547, .int r] μ1
  refine g_arg 1 (by decide +kernel) (by decide) hL h3 hx1 ?_
  show G Γ m_LW_law 63 (b1 + 1, b2 + 6) Q 330 [.ref 31, .ref 32, .ref 547, .ref 573, .int (w ((6 * c : Nat) : Int))] [.int (xs (6 * c + 1)), .ref 547, .int r] μ1
  refine g_invV (M := m_LW_law) (i := 28) (M' := m_MO_end) (b1 := b1 + 1) (b2 := b2 + 6) (As := [.int (xs (6 * c + 1))]) (a := 547) (st := [.int r]) lk_12_28 (by decide +kernel) rfl (dk_MO_end 62) (Nat.le_of_ble_eq_true rfl) (Or.inl ⟨11, ob546 (Nat.le_trans hN.1 hn1), rfl⟩) hc1 ?_
  rintro _ μ2 ⟨r2, rfl, e2, hK2⟩ hn2
  subst e2
  show G Γ m_LW_law 63 (b1 + 1, b2 + 6) Q 333 [.ref 31, .ref 32, .ref 547, .ref 573, .int (w ((6 * c : Nat) : Int))] [.int r2, .int r2] μ2
  exact g_icmp_eq (pc' := 1689) (off := 1356) (by decide) (by decide +kernel) (fun _ => g_less (next μ2 hK2)) (fun z => absurd rfl z)
set_option maxRecDepth 100000 in
theorem lk_12_29 : LkV 12 29 m_FB_fault 1 := ⟨lc_FB_fault, lwG_in (List.mem_of_getElem? (i := 467) rfl) rfl, lwG_in (List.mem_of_getElem? (i := 468) rfl) rfl, lwG_in (List.mem_of_getElem? (i := 469) rfl) rfl⟩
set_option maxRecDepth 100000 in
theorem lk_12_33 : LkV 12 33 m_MO_fault 1 := ⟨lc_MO_fault, lwG_in (List.mem_of_getElem? (i := 1396) rfl) rfl, lwG_in (List.mem_of_getElem? (i := 1397) rfl) rfl, lwG_in (List.mem_of_getElem? (i := 1398) rfl) rfl⟩
set_option maxRecDepth 100000 in
theorem LW_case2 {Γ : XG} {c b1 b2 : Nat} {Q : Option Value → XM → Prop} {μ : XM} {xs : Nat → Int32} (hf : FM Γ) (hc : c ≤ 511) (hL : 6 * c + 6 ≤ Γ.2.2.2.2.2.2) (h3 : Γ.2.2.2.2.2.2 ≤ 3072) (hK : KS xs μ c) (next : ∀ μ2, KS xs μ2 (c + 1) → G Γ m_LW_law 63 (b1, b2) Q 1689 [.ref 31, .ref 32, .ref 547, .ref 573, .int (w ((6 * c : Nat) : Int))] [] μ2) : G Γ m_LW_law 63 (b1 + 1, b2 + 6) Q 338 [.ref 31, .ref 32, .ref 547, .ref 573, .int (w ((6 * c : Nat) : Int))] [] μ := by
  have hN := hK.N
  refine run_ok (pc' := 339) [(.aload_n 1, 0, 0, 0)] _ _ _ _ (by decide +kernel) ?_
  show G Γ m_LW_law 63 (b1 + 1, b2 + 6) Q 339 [.ref 31, .ref 32, .ref 547, .ref 573, .int (w ((6 * c : Nat) : Int))] [.ref 32] μ
  refine g_arg 1 (by decide +kernel) (by decide) hL h3 hN.2 ?_
  show G Γ m_LW_law 63 (b1 + 1, b2 + 6) Q 345 [.ref 31, .ref 32, .ref 547, .ref 573, .int (w ((6 * c : Nat) : Int))] [.int (xs (6 * c + 1)), .ref 32] μ
  refine g_invV (M := m_LW_law) (i := 29) (M' := m_FB_fault) (b1 := b1 + 1) (b2 := b2 + 6) (As := [.int (xs (6 * c + 1))]) (a := 32) (st := []) lk_12_29 (by decide +kernel) rfl (dk_FB_fault 62) (Nat.le_of_ble_eq_true rfl) (Or.inl ⟨10, ob32 hN.1, rfl⟩) (S_fault hf (by decide) (by omega) hK (xs (6 * c + 1))) ?_
  rintro _ μ1 ⟨r, rfl, hx1, hc1⟩ hn1
  show G Γ m_LW_law 63 (b1 + 1, b2 + 6) Q 348 [.ref 31, .ref 32, .ref 547, .ref 573, .int (w ((6 * c : Nat) : Int))] [.int r] μ1
  refine run_ok (pc' := 349) [(.aload_n 2, 0, 0, 0)] _ _ _ _ (by decide +kernel) ?_
  show G Γ m_LW_law 63 (b1 + 1, b2 + 6) Q 349 [.ref 31, .ref 32, .ref 547, .ref 573, .int (w ((6 * c : Nat) : Int))] [.ref 547, .int r] μ1
  refine g_arg 1 (by decide +kernel) (by decide) hL h3 hx1 ?_
  show G Γ m_LW_law 63 (b1 + 1, b2 + 6) Q 355 [.ref 31, .ref 32, .ref 547, .ref 573, .int (w ((6 * c : Nat) : Int))] [.int (xs (6 * c + 1)), .ref 547, .int r] μ1
  refine g_invV (M := m_LW_law) (i := 33) (M' := m_MO_fault) (b1 := b1 + 1) (b2 := b2 + 6) (As := [.int (xs (6 * c + 1))]) (a := 547) (st := [.int r]) lk_12_33 (by decide +kernel) rfl (dk_MO_fault 62) (Nat.le_of_ble_eq_true rfl) (Or.inl ⟨11, ob546 (Nat.le_trans hN.1 hn1), rfl⟩) hc1 ?_
  rintro _ μ2 ⟨r2, rfl, e2, hK2⟩ hn2
  subst e2
  show G Γ m_LW_law 63 (b1 + 1, b2 + 6) Q 358 [.ref 31, .ref 32, .ref 547, .ref 573, .int (w ((6 * c : Nat) : Int))] [.int r2, .int r2] μ2
  exact g_icmp_eq (pc' := 1689) (off := 1331) (by decide) (by decide +kernel) (fun _ => g_less (next μ2 hK2)) (fun z => absurd rfl z)
set_option maxRecDepth 100000 in
theorem lk_12_34 : LkV 12 34 m_FB_text 1 := ⟨lc_FB_text, lwG_in (List.mem_of_getElem? (i := 641) rfl) rfl, lwG_in (List.mem_of_getElem? (i := 642) rfl) rfl, lwG_in (List.mem_of_getElem? (i := 643) rfl) rfl⟩
set_option maxRecDepth 100000 in
theorem lk_12_37 : LkV 12 37 m_MO_text 1 := ⟨lc_MO_text, lwG_in (List.mem_of_getElem? (i := 1580) rfl) rfl, lwG_in (List.mem_of_getElem? (i := 1581) rfl) rfl, lwG_in (List.mem_of_getElem? (i := 1582) rfl) rfl⟩
set_option maxRecDepth 100000 in
theorem LW_case3 {Γ : XG} {c b1 b2 : Nat} {Q : Option Value → XM → Prop} {μ : XM} {xs : Nat → Int32} (hf : FM Γ) (hc : c ≤ 511) (hL : 6 * c + 6 ≤ Γ.2.2.2.2.2.2) (h3 : Γ.2.2.2.2.2.2 ≤ 3072) (hK : KS xs μ c) (next : ∀ μ2, KS xs μ2 (c + 1) → G Γ m_LW_law 63 (b1, b2) Q 1689 [.ref 31, .ref 32, .ref 547, .ref 573, .int (w ((6 * c : Nat) : Int))] [] μ2) : G Γ m_LW_law 63 (b1 + 1, b2 + 6) Q 363 [.ref 31, .ref 32, .ref 547, .ref 573, .int (w ((6 * c : Nat) : Int))] [] μ := by
  have hN := hK.N
  refine run_ok (pc' := 364) [(.aload_n 1, 0, 0, 0)] _ _ _ _ (by decide +kernel) ?_
  show G Γ m_LW_law 63 (b1 + 1, b2 + 6) Q 364 [.ref 31, .ref 32, .ref 547, .ref 573, .int (w ((6 * c : Nat) : Int))] [.ref 32] μ
  refine g_arg 1 (by decide +kernel) (by decide) hL h3 hN.2 ?_
  show G Γ m_LW_law 63 (b1 + 1, b2 + 6) Q 370 [.ref 31, .ref 32, .ref 547, .ref 573, .int (w ((6 * c : Nat) : Int))] [.int (xs (6 * c + 1)), .ref 32] μ
  refine g_invV (M := m_LW_law) (i := 34) (M' := m_FB_text) (b1 := b1 + 1) (b2 := b2 + 6) (As := [.int (xs (6 * c + 1))]) (a := 32) (st := []) lk_12_34 (by decide +kernel) rfl (dk_FB_text 62) (Nat.le_of_ble_eq_true rfl) (Or.inl ⟨10, ob32 hN.1, rfl⟩) (S_text hf (by decide) (by omega) hK (xs (6 * c + 1))) ?_
  rintro _ μ1 ⟨r, rfl, hx1, hc1⟩ hn1
  show G Γ m_LW_law 63 (b1 + 1, b2 + 6) Q 373 [.ref 31, .ref 32, .ref 547, .ref 573, .int (w ((6 * c : Nat) : Int))] [.int r] μ1
  refine run_ok (pc' := 374) [(.aload_n 2, 0, 0, 0)] _ _ _ _ (by decide +kernel) ?_
  show G Γ m_LW_law 63 (b1 + 1, b2 + 6) Q 374 [.ref 31, .ref 32, .ref 547, .ref 573, .int (w ((6 * c : Nat) : Int))] [.ref 547, .int r] μ1
  refine g_arg 1 (by decide +kernel) (by decide) hL h3 hx1 ?_
  show G Γ m_LW_law 63 (b1 + 1, b2 + 6) Q 380 [.ref 31, .ref 32, .ref 547, .ref 573, .int (w ((6 * c : Nat) : Int))] [.int (xs (6 * c + 1)), .ref 547, .int r] μ1
  refine g_invV (M := m_LW_law) (i := 37) (M' := m_MO_text) (b1 := b1 + 1) (b2 := b2 + 6) (As := [.int (xs (6 * c + 1))]) (a := 547) (st := [.int r]) lk_12_37 (by decide +kernel) rfl (dk_MO_text 62) (Nat.le_of_ble_eq_true rfl) (Or.inl ⟨11, ob546 (Nat.le_trans hN.1 hn1), rfl⟩) hc1 ?_
  rintro _ μ2 ⟨r2, rfl, e2, hK2⟩ hn2
  subst e2
  show G Γ m_LW_law 63 (b1 + 1, b2 + 6) Q 383 [.ref 31, .ref 32, .ref 547, .ref 573, .int (w ((6 * c : Nat) : Int))] [.int r2, .int r2] μ2
  exact g_icmp_eq (pc' := 1689) (off := 1306) (by decide) (by decide +kernel) (fun _ => g_less (next μ2 hK2)) (fun z => absurd rfl z)
set_option maxRecDepth 100000 in
theorem lk_12_38 : LkV 12 38 m_FB_rule 1 := ⟨lc_FB_rule, lwG_in (List.mem_of_getElem? (i := 662) rfl) rfl, lwG_in (List.mem_of_getElem? (i := 663) rfl) rfl, lwG_in (List.mem_of_getElem? (i := 664) rfl) rfl⟩
set_option maxRecDepth 100000 in
theorem lk_12_41 : LkV 12 41 m_MO_rule 1 := ⟨lc_MO_rule, lwG_in (List.mem_of_getElem? (i := 1585) rfl) rfl, lwG_in (List.mem_of_getElem? (i := 1586) rfl) rfl, lwG_in (List.mem_of_getElem? (i := 1587) rfl) rfl⟩
set_option maxRecDepth 100000 in
theorem LW_case4 {Γ : XG} {c b1 b2 : Nat} {Q : Option Value → XM → Prop} {μ : XM} {xs : Nat → Int32} (hf : FM Γ) (hc : c ≤ 511) (hL : 6 * c + 6 ≤ Γ.2.2.2.2.2.2) (h3 : Γ.2.2.2.2.2.2 ≤ 3072) (hK : KS xs μ c) (next : ∀ μ2, KS xs μ2 (c + 1) → G Γ m_LW_law 63 (b1, b2) Q 1689 [.ref 31, .ref 32, .ref 547, .ref 573, .int (w ((6 * c : Nat) : Int))] [] μ2) : G Γ m_LW_law 63 (b1 + 1, b2 + 6) Q 388 [.ref 31, .ref 32, .ref 547, .ref 573, .int (w ((6 * c : Nat) : Int))] [] μ := by
  have hN := hK.N
  refine run_ok (pc' := 389) [(.aload_n 1, 0, 0, 0)] _ _ _ _ (by decide +kernel) ?_
  show G Γ m_LW_law 63 (b1 + 1, b2 + 6) Q 389 [.ref 31, .ref 32, .ref 547, .ref 573, .int (w ((6 * c : Nat) : Int))] [.ref 32] μ
  refine g_arg 1 (by decide +kernel) (by decide) hL h3 hN.2 ?_
  show G Γ m_LW_law 63 (b1 + 1, b2 + 6) Q 395 [.ref 31, .ref 32, .ref 547, .ref 573, .int (w ((6 * c : Nat) : Int))] [.int (xs (6 * c + 1)), .ref 32] μ
  refine g_invV (M := m_LW_law) (i := 38) (M' := m_FB_rule) (b1 := b1 + 1) (b2 := b2 + 6) (As := [.int (xs (6 * c + 1))]) (a := 32) (st := []) lk_12_38 (by decide +kernel) rfl (dk_FB_rule 62) (Nat.le_of_ble_eq_true rfl) (Or.inl ⟨10, ob32 hN.1, rfl⟩) (S_rule hf (by decide) (by omega) hK (xs (6 * c + 1))) ?_
  rintro _ μ1 ⟨r, rfl, hx1, hc1⟩ hn1
  show G Γ m_LW_law 63 (b1 + 1, b2 + 6) Q 398 [.ref 31, .ref 32, .ref 547, .ref 573, .int (w ((6 * c : Nat) : Int))] [.int r] μ1
  refine run_ok (pc' := 399) [(.aload_n 2, 0, 0, 0)] _ _ _ _ (by decide +kernel) ?_
  show G Γ m_LW_law 63 (b1 + 1, b2 + 6) Q 399 [.ref 31, .ref 32, .ref 547, .ref 573, .int (w ((6 * c : Nat) : Int))] [.ref 547, .int r] μ1
  refine g_arg 1 (by decide +kernel) (by decide) hL h3 hx1 ?_
  show G Γ m_LW_law 63 (b1 + 1, b2 + 6) Q 405 [.ref 31, .ref 32, .ref 547, .ref 573, .int (w ((6 * c : Nat) : Int))] [.int (xs (6 * c + 1)), .ref 547, .int r] μ1
  refine g_invV (M := m_LW_law) (i := 41) (M' := m_MO_rule) (b1 := b1 + 1) (b2 := b2 + 6) (As := [.int (xs (6 * c + 1))]) (a := 547) (st := [.int r]) lk_12_41 (by decide +kernel) rfl (dk_MO_rule 62) (Nat.le_of_ble_eq_true rfl) (Or.inl ⟨11, ob546 (Nat.le_trans hN.1 hn1), rfl⟩) hc1 ?_
  rintro _ μ2 ⟨r2, rfl, e2, hK2⟩ hn2
  subst e2
  show G Γ m_LW_law 63 (b1 + 1, b2 + 6) Q 408 [.ref 31, .ref 32, .ref 547, .ref 573, .int (w ((6 * c : Nat) : Int))] [.int r2, .int r2] μ2
  exact g_icmp_eq (pc' := 1689) (off := 1281) (by decide) (by decide +kernel) (fun _ => g_less (next μ2 hK2)) (fun z => absurd rfl z)
set_option maxRecDepth 100000 in
theorem lk_12_42 : LkV 12 42 m_FB_kind 2 := ⟨lc_FB_kind, lwG_in (List.mem_of_getElem? (i := 670) rfl) rfl, lwG_in (List.mem_of_getElem? (i := 671) rfl) rfl, lwG_in (List.mem_of_getElem? (i := 672) rfl) rfl⟩
set_option maxRecDepth 100000 in
theorem lk_12_45 : LkV 12 45 m_MO_kind 2 := ⟨lc_MO_kind, lwG_in (List.mem_of_getElem? (i := 1590) rfl) rfl, lwG_in (List.mem_of_getElem? (i := 1591) rfl) rfl, lwG_in (List.mem_of_getElem? (i := 1592) rfl) rfl⟩
set_option maxRecDepth 100000 in
theorem LW_case5 {Γ : XG} {c b1 b2 : Nat} {Q : Option Value → XM → Prop} {μ : XM} {xs : Nat → Int32} (hf : FM Γ) (hc : c ≤ 511) (hL : 6 * c + 6 ≤ Γ.2.2.2.2.2.2) (h3 : Γ.2.2.2.2.2.2 ≤ 3072) (hK : KS xs μ c) (next : ∀ μ2, KS xs μ2 (c + 1) → G Γ m_LW_law 63 (b1, b2) Q 1689 [.ref 31, .ref 32, .ref 547, .ref 573, .int (w ((6 * c : Nat) : Int))] [] μ2) : G Γ m_LW_law 63 (b1 + 1, b2 + 6) Q 413 [.ref 31, .ref 32, .ref 547, .ref 573, .int (w ((6 * c : Nat) : Int))] [] μ := by
  have hN := hK.N
  refine run_ok (pc' := 414) [(.aload_n 1, 0, 0, 0)] _ _ _ _ (by decide +kernel) ?_
  show G Γ m_LW_law 63 (b1 + 1, b2 + 6) Q 414 [.ref 31, .ref 32, .ref 547, .ref 573, .int (w ((6 * c : Nat) : Int))] [.ref 32] μ
  refine g_arg 1 (by decide +kernel) (by decide) hL h3 hN.2 ?_
  show G Γ m_LW_law 63 (b1 + 1, b2 + 6) Q 420 [.ref 31, .ref 32, .ref 547, .ref 573, .int (w ((6 * c : Nat) : Int))] [.int (xs (6 * c + 1)), .ref 32] μ
  refine g_arg 2 (by decide +kernel) (by decide) hL h3 hN.2 ?_
  show G Γ m_LW_law 63 (b1 + 1, b2 + 6) Q 426 [.ref 31, .ref 32, .ref 547, .ref 573, .int (w ((6 * c : Nat) : Int))] [.int (xs (6 * c + 2)), .int (xs (6 * c + 1)), .ref 32] μ
  refine g_invV (M := m_LW_law) (i := 42) (M' := m_FB_kind) (b1 := b1 + 1) (b2 := b2 + 6) (As := [.int (xs (6 * c + 1)), .int (xs (6 * c + 2))]) (a := 32) (st := []) lk_12_42 (by decide +kernel) rfl (dk_FB_kind 62) (Nat.le_of_ble_eq_true rfl) (Or.inl ⟨10, ob32 hN.1, rfl⟩) (S_kind hf (by decide) (by omega) hK (xs (6 * c + 1)) (xs (6 * c + 2))) ?_
  rintro _ μ1 ⟨r, rfl, hx1, hc1⟩ hn1
  show G Γ m_LW_law 63 (b1 + 1, b2 + 6) Q 429 [.ref 31, .ref 32, .ref 547, .ref 573, .int (w ((6 * c : Nat) : Int))] [.int r] μ1
  refine run_ok (pc' := 430) [(.aload_n 2, 0, 0, 0)] _ _ _ _ (by decide +kernel) ?_
  show G Γ m_LW_law 63 (b1 + 1, b2 + 6) Q 430 [.ref 31, .ref 32, .ref 547, .ref 573, .int (w ((6 * c : Nat) : Int))] [.ref 547, .int r] μ1
  refine g_arg 1 (by decide +kernel) (by decide) hL h3 hx1 ?_
  show G Γ m_LW_law 63 (b1 + 1, b2 + 6) Q 436 [.ref 31, .ref 32, .ref 547, .ref 573, .int (w ((6 * c : Nat) : Int))] [.int (xs (6 * c + 1)), .ref 547, .int r] μ1
  refine g_arg 2 (by decide +kernel) (by decide) hL h3 hx1 ?_
  show G Γ m_LW_law 63 (b1 + 1, b2 + 6) Q 442 [.ref 31, .ref 32, .ref 547, .ref 573, .int (w ((6 * c : Nat) : Int))] [.int (xs (6 * c + 2)), .int (xs (6 * c + 1)), .ref 547, .int r] μ1
  refine g_invV (M := m_LW_law) (i := 45) (M' := m_MO_kind) (b1 := b1 + 1) (b2 := b2 + 6) (As := [.int (xs (6 * c + 1)), .int (xs (6 * c + 2))]) (a := 547) (st := [.int r]) lk_12_45 (by decide +kernel) rfl (dk_MO_kind 62) (Nat.le_of_ble_eq_true rfl) (Or.inl ⟨11, ob546 (Nat.le_trans hN.1 hn1), rfl⟩) hc1 ?_
  rintro _ μ2 ⟨r2, rfl, e2, hK2⟩ hn2
  subst e2
  show G Γ m_LW_law 63 (b1 + 1, b2 + 6) Q 445 [.ref 31, .ref 32, .ref 547, .ref 573, .int (w ((6 * c : Nat) : Int))] [.int r2, .int r2] μ2
  exact g_icmp_eq (pc' := 1689) (off := 1244) (by decide) (by decide +kernel) (fun _ => g_less (next μ2 hK2)) (fun z => absurd rfl z)
set_option maxRecDepth 100000 in
theorem lk_12_56 : LkV 12 56 m_FB_law 1 := ⟨lc_FB_law, lwG_in (List.mem_of_getElem? (i := 678) rfl) rfl, lwG_in (List.mem_of_getElem? (i := 679) rfl) rfl, lwG_in (List.mem_of_getElem? (i := 680) rfl) rfl⟩
set_option maxRecDepth 100000 in
theorem lk_12_59 : LkV 12 59 m_MO_law 1 := ⟨lc_MO_law, lwG_in (List.mem_of_getElem? (i := 1639) rfl) rfl, lwG_in (List.mem_of_getElem? (i := 1640) rfl) rfl, lwG_in (List.mem_of_getElem? (i := 1641) rfl) rfl⟩
set_option maxRecDepth 100000 in
theorem LW_case7 {Γ : XG} {c b1 b2 : Nat} {Q : Option Value → XM → Prop} {μ : XM} {xs : Nat → Int32} (hf : FM Γ) (hc : c ≤ 511) (hL : 6 * c + 6 ≤ Γ.2.2.2.2.2.2) (h3 : Γ.2.2.2.2.2.2 ≤ 3072) (hK : KS xs μ c) (next : ∀ μ2, KS xs μ2 (c + 1) → G Γ m_LW_law 63 (b1, b2) Q 1689 [.ref 31, .ref 32, .ref 547, .ref 573, .int (w ((6 * c : Nat) : Int))] [] μ2) : G Γ m_LW_law 63 (b1 + 1, b2 + 6) Q 518 [.ref 31, .ref 32, .ref 547, .ref 573, .int (w ((6 * c : Nat) : Int))] [] μ := by
  have hN := hK.N
  refine run_ok (pc' := 519) [(.aload_n 1, 0, 0, 0)] _ _ _ _ (by decide +kernel) ?_
  show G Γ m_LW_law 63 (b1 + 1, b2 + 6) Q 519 [.ref 31, .ref 32, .ref 547, .ref 573, .int (w ((6 * c : Nat) : Int))] [.ref 32] μ
  refine g_arg 1 (by decide +kernel) (by decide) hL h3 hN.2 ?_
  show G Γ m_LW_law 63 (b1 + 1, b2 + 6) Q 525 [.ref 31, .ref 32, .ref 547, .ref 573, .int (w ((6 * c : Nat) : Int))] [.int (xs (6 * c + 1)), .ref 32] μ
  refine g_invV (M := m_LW_law) (i := 56) (M' := m_FB_law) (b1 := b1 + 1) (b2 := b2 + 6) (As := [.int (xs (6 * c + 1))]) (a := 32) (st := []) lk_12_56 (by decide +kernel) rfl (dk_FB_law 62) (Nat.le_of_ble_eq_true rfl) (Or.inl ⟨10, ob32 hN.1, rfl⟩) (S_law hf (by decide) (by omega) hK (xs (6 * c + 1))) ?_
  rintro _ μ1 ⟨r, rfl, hx1, hc1⟩ hn1
  show G Γ m_LW_law 63 (b1 + 1, b2 + 6) Q 528 [.ref 31, .ref 32, .ref 547, .ref 573, .int (w ((6 * c : Nat) : Int))] [.int r] μ1
  refine run_ok (pc' := 529) [(.aload_n 2, 0, 0, 0)] _ _ _ _ (by decide +kernel) ?_
  show G Γ m_LW_law 63 (b1 + 1, b2 + 6) Q 529 [.ref 31, .ref 32, .ref 547, .ref 573, .int (w ((6 * c : Nat) : Int))] [.ref 547, .int r] μ1
  refine g_arg 1 (by decide +kernel) (by decide) hL h3 hx1 ?_
  show G Γ m_LW_law 63 (b1 + 1, b2 + 6) Q 535 [.ref 31, .ref 32, .ref 547, .ref 573, .int (w ((6 * c : Nat) : Int))] [.int (xs (6 * c + 1)), .ref 547, .int r] μ1
  refine g_invV (M := m_LW_law) (i := 59) (M' := m_MO_law) (b1 := b1 + 1) (b2 := b2 + 6) (As := [.int (xs (6 * c + 1))]) (a := 547) (st := [.int r]) lk_12_59 (by decide +kernel) rfl (dk_MO_law 62) (Nat.le_of_ble_eq_true rfl) (Or.inl ⟨11, ob546 (Nat.le_trans hN.1 hn1), rfl⟩) hc1 ?_
  rintro _ μ2 ⟨r2, rfl, e2, hK2⟩ hn2
  subst e2
  show G Γ m_LW_law 63 (b1 + 1, b2 + 6) Q 538 [.ref 31, .ref 32, .ref 547, .ref 573, .int (w ((6 * c : Nat) : Int))] [.int r2, .int r2] μ2
  exact g_icmp_eq (pc' := 1689) (off := 1151) (by decide) (by decide +kernel) (fun _ => g_less (next μ2 hK2)) (fun z => absurd rfl z)
set_option maxRecDepth 100000 in
theorem lk_12_60 : LkV 12 60 m_FB_habit 1 := ⟨lc_FB_habit, lwG_in (List.mem_of_getElem? (i := 682) rfl) rfl, lwG_in (List.mem_of_getElem? (i := 683) rfl) rfl, lwG_in (List.mem_of_getElem? (i := 684) rfl) rfl⟩
set_option maxRecDepth 100000 in
theorem lk_12_63 : LkV 12 63 m_MO_habit 1 := ⟨lc_MO_habit, lwG_in (List.mem_of_getElem? (i := 1643) rfl) rfl, lwG_in (List.mem_of_getElem? (i := 1644) rfl) rfl, lwG_in (List.mem_of_getElem? (i := 1645) rfl) rfl⟩
set_option maxRecDepth 100000 in
theorem LW_case8 {Γ : XG} {c b1 b2 : Nat} {Q : Option Value → XM → Prop} {μ : XM} {xs : Nat → Int32} (hf : FM Γ) (hc : c ≤ 511) (hL : 6 * c + 6 ≤ Γ.2.2.2.2.2.2) (h3 : Γ.2.2.2.2.2.2 ≤ 3072) (hK : KS xs μ c) (next : ∀ μ2, KS xs μ2 (c + 1) → G Γ m_LW_law 63 (b1, b2) Q 1689 [.ref 31, .ref 32, .ref 547, .ref 573, .int (w ((6 * c : Nat) : Int))] [] μ2) : G Γ m_LW_law 63 (b1 + 1, b2 + 6) Q 543 [.ref 31, .ref 32, .ref 547, .ref 573, .int (w ((6 * c : Nat) : Int))] [] μ := by
  have hN := hK.N
  refine run_ok (pc' := 544) [(.aload_n 1, 0, 0, 0)] _ _ _ _ (by decide +kernel) ?_
  show G Γ m_LW_law 63 (b1 + 1, b2 + 6) Q 544 [.ref 31, .ref 32, .ref 547, .ref 573, .int (w ((6 * c : Nat) : Int))] [.ref 32] μ
  refine g_arg 1 (by decide +kernel) (by decide) hL h3 hN.2 ?_
  show G Γ m_LW_law 63 (b1 + 1, b2 + 6) Q 550 [.ref 31, .ref 32, .ref 547, .ref 573, .int (w ((6 * c : Nat) : Int))] [.int (xs (6 * c + 1)), .ref 32] μ
  refine g_invV (M := m_LW_law) (i := 60) (M' := m_FB_habit) (b1 := b1 + 1) (b2 := b2 + 6) (As := [.int (xs (6 * c + 1))]) (a := 32) (st := []) lk_12_60 (by decide +kernel) rfl (dk_FB_habit 62) (Nat.le_of_ble_eq_true rfl) (Or.inl ⟨10, ob32 hN.1, rfl⟩) (S_habit hf (by decide) (by omega) hK (xs (6 * c + 1))) ?_
  rintro _ μ1 ⟨r, rfl, hx1, hc1⟩ hn1
  show G Γ m_LW_law 63 (b1 + 1, b2 + 6) Q 553 [.ref 31, .ref 32, .ref 547, .ref 573, .int (w ((6 * c : Nat) : Int))] [.int r] μ1
  refine run_ok (pc' := 554) [(.aload_n 2, 0, 0, 0)] _ _ _ _ (by decide +kernel) ?_
  show G Γ m_LW_law 63 (b1 + 1, b2 + 6) Q 554 [.ref 31, .ref 32, .ref 547, .ref 573, .int (w ((6 * c : Nat) : Int))] [.ref 547, .int r] μ1
  refine g_arg 1 (by decide +kernel) (by decide) hL h3 hx1 ?_
  show G Γ m_LW_law 63 (b1 + 1, b2 + 6) Q 560 [.ref 31, .ref 32, .ref 547, .ref 573, .int (w ((6 * c : Nat) : Int))] [.int (xs (6 * c + 1)), .ref 547, .int r] μ1
  refine g_invV (M := m_LW_law) (i := 63) (M' := m_MO_habit) (b1 := b1 + 1) (b2 := b2 + 6) (As := [.int (xs (6 * c + 1))]) (a := 547) (st := [.int r]) lk_12_63 (by decide +kernel) rfl (dk_MO_habit 62) (Nat.le_of_ble_eq_true rfl) (Or.inl ⟨11, ob546 (Nat.le_trans hN.1 hn1), rfl⟩) hc1 ?_
  rintro _ μ2 ⟨r2, rfl, e2, hK2⟩ hn2
  subst e2
  show G Γ m_LW_law 63 (b1 + 1, b2 + 6) Q 563 [.ref 31, .ref 32, .ref 547, .ref 573, .int (w ((6 * c : Nat) : Int))] [.int r2, .int r2] μ2
  exact g_icmp_eq (pc' := 1689) (off := 1126) (by decide) (by decide +kernel) (fun _ => g_less (next μ2 hK2)) (fun z => absurd rfl z)
set_option maxRecDepth 100000 in
theorem lk_12_64 : LkV 12 64 m_FB_put 3 := ⟨lc_FB_put, lwG_in (List.mem_of_getElem? (i := 686) rfl) rfl, lwG_in (List.mem_of_getElem? (i := 687) rfl) rfl, lwG_in (List.mem_of_getElem? (i := 688) rfl) rfl⟩
set_option maxRecDepth 100000 in
theorem lk_12_68 : LkV 12 68 m_MO_put3 3 := ⟨lc_MO_put3, lwG_in (List.mem_of_getElem? (i := 1648) rfl) rfl, lwG_in (List.mem_of_getElem? (i := 1649) rfl) rfl, lwG_in (List.mem_of_getElem? (i := 1650) rfl) rfl⟩
set_option maxRecDepth 100000 in
theorem LW_case9 {Γ : XG} {c b1 b2 : Nat} {Q : Option Value → XM → Prop} {μ : XM} {xs : Nat → Int32} (hf : FM Γ) (hc : c ≤ 511) (hL : 6 * c + 6 ≤ Γ.2.2.2.2.2.2) (h3 : Γ.2.2.2.2.2.2 ≤ 3072) (hK : KS xs μ c) (next : ∀ μ2, KS xs μ2 (c + 1) → G Γ m_LW_law 63 (b1, b2) Q 1689 [.ref 31, .ref 32, .ref 547, .ref 573, .int (w ((6 * c : Nat) : Int))] [] μ2) : G Γ m_LW_law 63 (b1 + 1, b2 + 6) Q 568 [.ref 31, .ref 32, .ref 547, .ref 573, .int (w ((6 * c : Nat) : Int))] [] μ := by
  have hN := hK.N
  refine run_ok (pc' := 569) [(.aload_n 1, 0, 0, 0)] _ _ _ _ (by decide +kernel) ?_
  show G Γ m_LW_law 63 (b1 + 1, b2 + 6) Q 569 [.ref 31, .ref 32, .ref 547, .ref 573, .int (w ((6 * c : Nat) : Int))] [.ref 32] μ
  refine g_arg 1 (by decide +kernel) (by decide) hL h3 hN.2 ?_
  show G Γ m_LW_law 63 (b1 + 1, b2 + 6) Q 575 [.ref 31, .ref 32, .ref 547, .ref 573, .int (w ((6 * c : Nat) : Int))] [.int (xs (6 * c + 1)), .ref 32] μ
  refine g_arg 2 (by decide +kernel) (by decide) hL h3 hN.2 ?_
  show G Γ m_LW_law 63 (b1 + 1, b2 + 6) Q 581 [.ref 31, .ref 32, .ref 547, .ref 573, .int (w ((6 * c : Nat) : Int))] [.int (xs (6 * c + 2)), .int (xs (6 * c + 1)), .ref 32] μ
  refine g_arg 3 (by decide +kernel) (by decide) hL h3 hN.2 ?_
  show G Γ m_LW_law 63 (b1 + 1, b2 + 6) Q 587 [.ref 31, .ref 32, .ref 547, .ref 573, .int (w ((6 * c : Nat) : Int))] [.int (xs (6 * c + 3)), .int (xs (6 * c + 2)), .int (xs (6 * c + 1)), .ref 32] μ
  refine g_z01 (by decide +kernel) ?_
  show G Γ m_LW_law 63 (b1 + 1, b2 + 6) Q 595 [.ref 31, .ref 32, .ref 547, .ref 573, .int (w ((6 * c : Nat) : Int))] [.int (w (z01 (xs (6 * c + 3)))), .int (xs (6 * c + 2)), .int (xs (6 * c + 1)), .ref 32] μ
  refine g_invV (M := m_LW_law) (i := 64) (M' := m_FB_put) (b1 := b1 + 1) (b2 := b2 + 6) (As := [.int (xs (6 * c + 1)), .int (xs (6 * c + 2)), .int (w (z01 (xs (6 * c + 3))))]) (a := 32) (st := []) lk_12_64 (by decide +kernel) rfl (dk_FB_put 62) (Nat.le_of_ble_eq_true rfl) (Or.inl ⟨10, ob32 hN.1, rfl⟩) (S_put hf (by decide) (by omega) hK (xs (6 * c + 1)) (xs (6 * c + 2)) (z01 (xs (6 * c + 3))) (z01_bd _).1.1 (z01_bd _).1.2) ?_
  rintro _ μ1 ⟨r, rfl, hx1, hc1⟩ hn1
  show G Γ m_LW_law 63 (b1 + 1, b2 + 6) Q 598 [.ref 31, .ref 32, .ref 547, .ref 573, .int (w ((6 * c : Nat) : Int))] [.int r] μ1
  refine run_ok (pc' := 599) [(.aload_n 2, 0, 0, 0)] _ _ _ _ (by decide +kernel) ?_
  show G Γ m_LW_law 63 (b1 + 1, b2 + 6) Q 599 [.ref 31, .ref 32, .ref 547, .ref 573, .int (w ((6 * c : Nat) : Int))] [.ref 547, .int r] μ1
  refine g_arg 1 (by decide +kernel) (by decide) hL h3 hx1 ?_
  show G Γ m_LW_law 63 (b1 + 1, b2 + 6) Q 605 [.ref 31, .ref 32, .ref 547, .ref 573, .int (w ((6 * c : Nat) : Int))] [.int (xs (6 * c + 1)), .ref 547, .int r] μ1
  refine g_arg 2 (by decide +kernel) (by decide) hL h3 hx1 ?_
  show G Γ m_LW_law 63 (b1 + 1, b2 + 6) Q 611 [.ref 31, .ref 32, .ref 547, .ref 573, .int (w ((6 * c : Nat) : Int))] [.int (xs (6 * c + 2)), .int (xs (6 * c + 1)), .ref 547, .int r] μ1
  refine g_arg 3 (by decide +kernel) (by decide) hL h3 hx1 ?_
  show G Γ m_LW_law 63 (b1 + 1, b2 + 6) Q 617 [.ref 31, .ref 32, .ref 547, .ref 573, .int (w ((6 * c : Nat) : Int))] [.int (xs (6 * c + 3)), .int (xs (6 * c + 2)), .int (xs (6 * c + 1)), .ref 547, .int r] μ1
  refine g_z01 (by decide +kernel) ?_
  show G Γ m_LW_law 63 (b1 + 1, b2 + 6) Q 625 [.ref 31, .ref 32, .ref 547, .ref 573, .int (w ((6 * c : Nat) : Int))] [.int (w (z01 (xs (6 * c + 3)))), .int (xs (6 * c + 2)), .int (xs (6 * c + 1)), .ref 547, .int r] μ1
  refine g_invV (M := m_LW_law) (i := 68) (M' := m_MO_put3) (b1 := b1 + 1) (b2 := b2 + 6) (As := [.int (xs (6 * c + 1)), .int (xs (6 * c + 2)), .int (w (z01 (xs (6 * c + 3))))]) (a := 547) (st := [.int r]) lk_12_68 (by decide +kernel) rfl (dk_MO_put3 62) (Nat.le_of_ble_eq_true rfl) (Or.inl ⟨11, ob546 (Nat.le_trans hN.1 hn1), rfl⟩) hc1 ?_
  rintro _ μ2 ⟨r2, rfl, e2, hK2⟩ hn2
  subst e2
  show G Γ m_LW_law 63 (b1 + 1, b2 + 6) Q 628 [.ref 31, .ref 32, .ref 547, .ref 573, .int (w ((6 * c : Nat) : Int))] [.int r2, .int r2] μ2
  exact g_icmp_eq (pc' := 1689) (off := 1061) (by decide) (by decide +kernel) (fun _ => g_less (next μ2 hK2)) (fun z => absurd rfl z)
set_option maxRecDepth 100000 in
theorem lk_12_69 : LkV 12 69 m_FB_take 1 := ⟨lc_FB_take, lwG_in (List.mem_of_getElem? (i := 708) rfl) rfl, lwG_in (List.mem_of_getElem? (i := 709) rfl) rfl, lwG_in (List.mem_of_getElem? (i := 710) rfl) rfl⟩
set_option maxRecDepth 100000 in
theorem lk_12_72 : LkV 12 72 m_MO_take 1 := ⟨lc_MO_take, lwG_in (List.mem_of_getElem? (i := 1667) rfl) rfl, lwG_in (List.mem_of_getElem? (i := 1668) rfl) rfl, lwG_in (List.mem_of_getElem? (i := 1669) rfl) rfl⟩
set_option maxRecDepth 100000 in
theorem LW_case10 {Γ : XG} {c b1 b2 : Nat} {Q : Option Value → XM → Prop} {μ : XM} {xs : Nat → Int32} (hf : FM Γ) (hc : c ≤ 511) (hL : 6 * c + 6 ≤ Γ.2.2.2.2.2.2) (h3 : Γ.2.2.2.2.2.2 ≤ 3072) (hK : KS xs μ c) (next : ∀ μ2, KS xs μ2 (c + 1) → G Γ m_LW_law 63 (b1, b2) Q 1689 [.ref 31, .ref 32, .ref 547, .ref 573, .int (w ((6 * c : Nat) : Int))] [] μ2) : G Γ m_LW_law 63 (b1 + 1, b2 + 6) Q 633 [.ref 31, .ref 32, .ref 547, .ref 573, .int (w ((6 * c : Nat) : Int))] [] μ := by
  have hN := hK.N
  refine run_ok (pc' := 634) [(.aload_n 1, 0, 0, 0)] _ _ _ _ (by decide +kernel) ?_
  show G Γ m_LW_law 63 (b1 + 1, b2 + 6) Q 634 [.ref 31, .ref 32, .ref 547, .ref 573, .int (w ((6 * c : Nat) : Int))] [.ref 32] μ
  refine g_arg 1 (by decide +kernel) (by decide) hL h3 hN.2 ?_
  show G Γ m_LW_law 63 (b1 + 1, b2 + 6) Q 640 [.ref 31, .ref 32, .ref 547, .ref 573, .int (w ((6 * c : Nat) : Int))] [.int (xs (6 * c + 1)), .ref 32] μ
  refine g_invV (M := m_LW_law) (i := 69) (M' := m_FB_take) (b1 := b1 + 1) (b2 := b2 + 6) (As := [.int (xs (6 * c + 1))]) (a := 32) (st := []) lk_12_69 (by decide +kernel) rfl (dk_FB_take 62) (Nat.le_of_ble_eq_true rfl) (Or.inl ⟨10, ob32 hN.1, rfl⟩) (S_take hf (by decide) (by omega) hK (xs (6 * c + 1))) ?_
  rintro _ μ1 ⟨r, rfl, hx1, hc1⟩ hn1
  show G Γ m_LW_law 63 (b1 + 1, b2 + 6) Q 643 [.ref 31, .ref 32, .ref 547, .ref 573, .int (w ((6 * c : Nat) : Int))] [.int r] μ1
  refine run_ok (pc' := 644) [(.aload_n 2, 0, 0, 0)] _ _ _ _ (by decide +kernel) ?_
  show G Γ m_LW_law 63 (b1 + 1, b2 + 6) Q 644 [.ref 31, .ref 32, .ref 547, .ref 573, .int (w ((6 * c : Nat) : Int))] [.ref 547, .int r] μ1
  refine g_arg 1 (by decide +kernel) (by decide) hL h3 hx1 ?_
  show G Γ m_LW_law 63 (b1 + 1, b2 + 6) Q 650 [.ref 31, .ref 32, .ref 547, .ref 573, .int (w ((6 * c : Nat) : Int))] [.int (xs (6 * c + 1)), .ref 547, .int r] μ1
  refine g_invV (M := m_LW_law) (i := 72) (M' := m_MO_take) (b1 := b1 + 1) (b2 := b2 + 6) (As := [.int (xs (6 * c + 1))]) (a := 547) (st := [.int r]) lk_12_72 (by decide +kernel) rfl (dk_MO_take 62) (Nat.le_of_ble_eq_true rfl) (Or.inl ⟨11, ob546 (Nat.le_trans hN.1 hn1), rfl⟩) hc1 ?_
  rintro _ μ2 ⟨r2, rfl, e2, hK2⟩ hn2
  subst e2
  show G Γ m_LW_law 63 (b1 + 1, b2 + 6) Q 653 [.ref 31, .ref 32, .ref 547, .ref 573, .int (w ((6 * c : Nat) : Int))] [.int r2, .int r2] μ2
  exact g_icmp_eq (pc' := 1689) (off := 1036) (by decide) (by decide +kernel) (fun _ => g_less (next μ2 hK2)) (fun z => absurd rfl z)
set_option maxRecDepth 100000 in
theorem lk_12_73 : LkV 12 73 m_FB_label 1 := ⟨lc_FB_label, lwG_in (List.mem_of_getElem? (i := 759) rfl) rfl, lwG_in (List.mem_of_getElem? (i := 760) rfl) rfl, lwG_in (List.mem_of_getElem? (i := 761) rfl) rfl⟩
set_option maxRecDepth 100000 in
theorem lk_12_76 : LkV 12 76 m_MO_label 1 := ⟨lc_MO_label, lwG_in (List.mem_of_getElem? (i := 1678) rfl) rfl, lwG_in (List.mem_of_getElem? (i := 1679) rfl) rfl, lwG_in (List.mem_of_getElem? (i := 1680) rfl) rfl⟩
set_option maxRecDepth 100000 in
theorem LW_case11 {Γ : XG} {c b1 b2 : Nat} {Q : Option Value → XM → Prop} {μ : XM} {xs : Nat → Int32} (hf : FM Γ) (hc : c ≤ 511) (hL : 6 * c + 6 ≤ Γ.2.2.2.2.2.2) (h3 : Γ.2.2.2.2.2.2 ≤ 3072) (hK : KS xs μ c) (next : ∀ μ2, KS xs μ2 (c + 1) → G Γ m_LW_law 63 (b1, b2) Q 1689 [.ref 31, .ref 32, .ref 547, .ref 573, .int (w ((6 * c : Nat) : Int))] [] μ2) : G Γ m_LW_law 63 (b1 + 1, b2 + 6) Q 658 [.ref 31, .ref 32, .ref 547, .ref 573, .int (w ((6 * c : Nat) : Int))] [] μ := by
  have hN := hK.N
  refine run_ok (pc' := 659) [(.aload_n 1, 0, 0, 0)] _ _ _ _ (by decide +kernel) ?_
  show G Γ m_LW_law 63 (b1 + 1, b2 + 6) Q 659 [.ref 31, .ref 32, .ref 547, .ref 573, .int (w ((6 * c : Nat) : Int))] [.ref 32] μ
  refine g_arg 1 (by decide +kernel) (by decide) hL h3 hN.2 ?_
  show G Γ m_LW_law 63 (b1 + 1, b2 + 6) Q 665 [.ref 31, .ref 32, .ref 547, .ref 573, .int (w ((6 * c : Nat) : Int))] [.int (xs (6 * c + 1)), .ref 32] μ
  refine g_invV (M := m_LW_law) (i := 73) (M' := m_FB_label) (b1 := b1 + 1) (b2 := b2 + 6) (As := [.int (xs (6 * c + 1))]) (a := 32) (st := []) lk_12_73 (by decide +kernel) rfl (dk_FB_label 62) (Nat.le_of_ble_eq_true rfl) (Or.inl ⟨10, ob32 hN.1, rfl⟩) (S_label hf (by decide) (by omega) hK (xs (6 * c + 1))) ?_
  rintro _ μ1 ⟨r, rfl, hx1, hc1⟩ hn1
  show G Γ m_LW_law 63 (b1 + 1, b2 + 6) Q 668 [.ref 31, .ref 32, .ref 547, .ref 573, .int (w ((6 * c : Nat) : Int))] [.int r] μ1
  refine run_ok (pc' := 669) [(.aload_n 2, 0, 0, 0)] _ _ _ _ (by decide +kernel) ?_
  show G Γ m_LW_law 63 (b1 + 1, b2 + 6) Q 669 [.ref 31, .ref 32, .ref 547, .ref 573, .int (w ((6 * c : Nat) : Int))] [.ref 547, .int r] μ1
  refine g_arg 1 (by decide +kernel) (by decide) hL h3 hx1 ?_
  show G Γ m_LW_law 63 (b1 + 1, b2 + 6) Q 675 [.ref 31, .ref 32, .ref 547, .ref 573, .int (w ((6 * c : Nat) : Int))] [.int (xs (6 * c + 1)), .ref 547, .int r] μ1
  refine g_invV (M := m_LW_law) (i := 76) (M' := m_MO_label) (b1 := b1 + 1) (b2 := b2 + 6) (As := [.int (xs (6 * c + 1))]) (a := 547) (st := [.int r]) lk_12_76 (by decide +kernel) rfl (dk_MO_label 62) (Nat.le_of_ble_eq_true rfl) (Or.inl ⟨11, ob546 (Nat.le_trans hN.1 hn1), rfl⟩) hc1 ?_
  rintro _ μ2 ⟨r2, rfl, e2, hK2⟩ hn2
  subst e2
  show G Γ m_LW_law 63 (b1 + 1, b2 + 6) Q 678 [.ref 31, .ref 32, .ref 547, .ref 573, .int (w ((6 * c : Nat) : Int))] [.int r2, .int r2] μ2
  exact g_icmp_eq (pc' := 1689) (off := 1011) (by decide) (by decide +kernel) (fun _ => g_less (next μ2 hK2)) (fun z => absurd rfl z)
set_option maxRecDepth 100000 in
theorem lk_12_77 : LkV 12 77 m_FB_months 1 := ⟨lc_FB_months, lwG_in (List.mem_of_getElem? (i := 771) rfl) rfl, lwG_in (List.mem_of_getElem? (i := 772) rfl) rfl, lwG_in (List.mem_of_getElem? (i := 773) rfl) rfl⟩
set_option maxRecDepth 100000 in
theorem lk_12_80 : LkV 12 80 m_MO_months 1 := ⟨lc_MO_months, lwG_in (List.mem_of_getElem? (i := 1689) rfl) rfl, lwG_in (List.mem_of_getElem? (i := 1690) rfl) rfl, lwG_in (List.mem_of_getElem? (i := 1691) rfl) rfl⟩
set_option maxRecDepth 100000 in
theorem LW_case12 {Γ : XG} {c b1 b2 : Nat} {Q : Option Value → XM → Prop} {μ : XM} {xs : Nat → Int32} (hf : FM Γ) (hc : c ≤ 511) (hL : 6 * c + 6 ≤ Γ.2.2.2.2.2.2) (h3 : Γ.2.2.2.2.2.2 ≤ 3072) (hK : KS xs μ c) (next : ∀ μ2, KS xs μ2 (c + 1) → G Γ m_LW_law 63 (b1, b2) Q 1689 [.ref 31, .ref 32, .ref 547, .ref 573, .int (w ((6 * c : Nat) : Int))] [] μ2) : G Γ m_LW_law 63 (b1 + 1, b2 + 6) Q 683 [.ref 31, .ref 32, .ref 547, .ref 573, .int (w ((6 * c : Nat) : Int))] [] μ := by
  have hN := hK.N
  refine run_ok (pc' := 684) [(.aload_n 1, 0, 0, 0)] _ _ _ _ (by decide +kernel) ?_
  show G Γ m_LW_law 63 (b1 + 1, b2 + 6) Q 684 [.ref 31, .ref 32, .ref 547, .ref 573, .int (w ((6 * c : Nat) : Int))] [.ref 32] μ
  refine g_arg 1 (by decide +kernel) (by decide) hL h3 hN.2 ?_
  show G Γ m_LW_law 63 (b1 + 1, b2 + 6) Q 690 [.ref 31, .ref 32, .ref 547, .ref 573, .int (w ((6 * c : Nat) : Int))] [.int (xs (6 * c + 1)), .ref 32] μ
  refine g_invV (M := m_LW_law) (i := 77) (M' := m_FB_months) (b1 := b1 + 1) (b2 := b2 + 6) (As := [.int (xs (6 * c + 1))]) (a := 32) (st := []) lk_12_77 (by decide +kernel) rfl (dk_FB_months 62) (Nat.le_of_ble_eq_true rfl) (Or.inl ⟨10, ob32 hN.1, rfl⟩) (S_months hf (by decide) (by omega) hK (xs (6 * c + 1))) ?_
  rintro _ μ1 ⟨r, rfl, hx1, hc1⟩ hn1
  show G Γ m_LW_law 63 (b1 + 1, b2 + 6) Q 693 [.ref 31, .ref 32, .ref 547, .ref 573, .int (w ((6 * c : Nat) : Int))] [.int r] μ1
  refine run_ok (pc' := 694) [(.aload_n 2, 0, 0, 0)] _ _ _ _ (by decide +kernel) ?_
  show G Γ m_LW_law 63 (b1 + 1, b2 + 6) Q 694 [.ref 31, .ref 32, .ref 547, .ref 573, .int (w ((6 * c : Nat) : Int))] [.ref 547, .int r] μ1
  refine g_arg 1 (by decide +kernel) (by decide) hL h3 hx1 ?_
  show G Γ m_LW_law 63 (b1 + 1, b2 + 6) Q 700 [.ref 31, .ref 32, .ref 547, .ref 573, .int (w ((6 * c : Nat) : Int))] [.int (xs (6 * c + 1)), .ref 547, .int r] μ1
  refine g_invV (M := m_LW_law) (i := 80) (M' := m_MO_months) (b1 := b1 + 1) (b2 := b2 + 6) (As := [.int (xs (6 * c + 1))]) (a := 547) (st := [.int r]) lk_12_80 (by decide +kernel) rfl (dk_MO_months 62) (Nat.le_of_ble_eq_true rfl) (Or.inl ⟨11, ob546 (Nat.le_trans hN.1 hn1), rfl⟩) hc1 ?_
  rintro _ μ2 ⟨r2, rfl, e2, hK2⟩ hn2
  subst e2
  show G Γ m_LW_law 63 (b1 + 1, b2 + 6) Q 703 [.ref 31, .ref 32, .ref 547, .ref 573, .int (w ((6 * c : Nat) : Int))] [.int r2, .int r2] μ2
  exact g_icmp_eq (pc' := 1689) (off := 986) (by decide) (by decide +kernel) (fun _ => g_less (next μ2 hK2)) (fun z => absurd rfl z)
set_option maxRecDepth 100000 in
theorem lk_12_81 : LkV 12 81 m_FB_off 1 := ⟨lc_FB_off, lwG_in (List.mem_of_getElem? (i := 793) rfl) rfl, lwG_in (List.mem_of_getElem? (i := 794) rfl) rfl, lwG_in (List.mem_of_getElem? (i := 795) rfl) rfl⟩
set_option maxRecDepth 100000 in
theorem lk_12_84 : LkV 12 84 m_MO_off 1 := ⟨lc_MO_off, lwG_in (List.mem_of_getElem? (i := 1705) rfl) rfl, lwG_in (List.mem_of_getElem? (i := 1706) rfl) rfl, lwG_in (List.mem_of_getElem? (i := 1707) rfl) rfl⟩
set_option maxRecDepth 100000 in
theorem LW_case13 {Γ : XG} {c b1 b2 : Nat} {Q : Option Value → XM → Prop} {μ : XM} {xs : Nat → Int32} (hf : FM Γ) (hc : c ≤ 511) (hL : 6 * c + 6 ≤ Γ.2.2.2.2.2.2) (h3 : Γ.2.2.2.2.2.2 ≤ 3072) (hK : KS xs μ c) (next : ∀ μ2, KS xs μ2 (c + 1) → G Γ m_LW_law 63 (b1, b2) Q 1689 [.ref 31, .ref 32, .ref 547, .ref 573, .int (w ((6 * c : Nat) : Int))] [] μ2) : G Γ m_LW_law 63 (b1 + 1, b2 + 6) Q 708 [.ref 31, .ref 32, .ref 547, .ref 573, .int (w ((6 * c : Nat) : Int))] [] μ := by
  have hN := hK.N
  refine run_ok (pc' := 709) [(.aload_n 1, 0, 0, 0)] _ _ _ _ (by decide +kernel) ?_
  show G Γ m_LW_law 63 (b1 + 1, b2 + 6) Q 709 [.ref 31, .ref 32, .ref 547, .ref 573, .int (w ((6 * c : Nat) : Int))] [.ref 32] μ
  refine g_arg 1 (by decide +kernel) (by decide) hL h3 hN.2 ?_
  show G Γ m_LW_law 63 (b1 + 1, b2 + 6) Q 715 [.ref 31, .ref 32, .ref 547, .ref 573, .int (w ((6 * c : Nat) : Int))] [.int (xs (6 * c + 1)), .ref 32] μ
  refine g_invV (M := m_LW_law) (i := 81) (M' := m_FB_off) (b1 := b1 + 1) (b2 := b2 + 6) (As := [.int (xs (6 * c + 1))]) (a := 32) (st := []) lk_12_81 (by decide +kernel) rfl (dk_FB_off 62) (Nat.le_of_ble_eq_true rfl) (Or.inl ⟨10, ob32 hN.1, rfl⟩) (S_off hf (by decide) (by omega) hK (xs (6 * c + 1))) ?_
  rintro _ μ1 ⟨r, rfl, hx1, hc1⟩ hn1
  show G Γ m_LW_law 63 (b1 + 1, b2 + 6) Q 718 [.ref 31, .ref 32, .ref 547, .ref 573, .int (w ((6 * c : Nat) : Int))] [.int r] μ1
  refine run_ok (pc' := 719) [(.aload_n 2, 0, 0, 0)] _ _ _ _ (by decide +kernel) ?_
  show G Γ m_LW_law 63 (b1 + 1, b2 + 6) Q 719 [.ref 31, .ref 32, .ref 547, .ref 573, .int (w ((6 * c : Nat) : Int))] [.ref 547, .int r] μ1
  refine g_arg 1 (by decide +kernel) (by decide) hL h3 hx1 ?_
  show G Γ m_LW_law 63 (b1 + 1, b2 + 6) Q 725 [.ref 31, .ref 32, .ref 547, .ref 573, .int (w ((6 * c : Nat) : Int))] [.int (xs (6 * c + 1)), .ref 547, .int r] μ1
  refine g_invV (M := m_LW_law) (i := 84) (M' := m_MO_off) (b1 := b1 + 1) (b2 := b2 + 6) (As := [.int (xs (6 * c + 1))]) (a := 547) (st := [.int r]) lk_12_84 (by decide +kernel) rfl (dk_MO_off 62) (Nat.le_of_ble_eq_true rfl) (Or.inl ⟨11, ob546 (Nat.le_trans hN.1 hn1), rfl⟩) hc1 ?_
  rintro _ μ2 ⟨r2, rfl, e2, hK2⟩ hn2
  subst e2
  show G Γ m_LW_law 63 (b1 + 1, b2 + 6) Q 728 [.ref 31, .ref 32, .ref 547, .ref 573, .int (w ((6 * c : Nat) : Int))] [.int r2, .int r2] μ2
  exact g_icmp_eq (pc' := 1689) (off := 961) (by decide) (by decide +kernel) (fun _ => g_less (next μ2 hK2)) (fun z => absurd rfl z)
set_option maxRecDepth 100000 in
theorem lk_12_87 : LkV 12 87 m_FB_years 2 := ⟨lc_FB_years, lwG_in (List.mem_of_getElem? (i := 810) rfl) rfl, lwG_in (List.mem_of_getElem? (i := 811) rfl) rfl, lwG_in (List.mem_of_getElem? (i := 812) rfl) rfl⟩
set_option maxRecDepth 100000 in
theorem lk_12_91 : LkV 12 91 m_MO_years 2 := ⟨lc_MO_years, lwG_in (List.mem_of_getElem? (i := 1718) rfl) rfl, lwG_in (List.mem_of_getElem? (i := 1719) rfl) rfl, lwG_in (List.mem_of_getElem? (i := 1720) rfl) rfl⟩
set_option maxRecDepth 100000 in
theorem LW_case14 {Γ : XG} {c b1 b2 : Nat} {Q : Option Value → XM → Prop} {μ : XM} {xs : Nat → Int32} (hf : FM Γ) (hc : c ≤ 511) (hL : 6 * c + 6 ≤ Γ.2.2.2.2.2.2) (h3 : Γ.2.2.2.2.2.2 ≤ 3072) (hK : KS xs μ c) (next : ∀ μ2, KS xs μ2 (c + 1) → G Γ m_LW_law 63 (b1, b2) Q 1689 [.ref 31, .ref 32, .ref 547, .ref 573, .int (w ((6 * c : Nat) : Int))] [] μ2) : G Γ m_LW_law 63 (b1 + 1, b2 + 6) Q 733 [.ref 31, .ref 32, .ref 547, .ref 573, .int (w ((6 * c : Nat) : Int))] [] μ := by
  have hN := hK.N
  refine run_ok (pc' := 734) [(.aload_n 1, 0, 0, 0)] _ _ _ _ (by decide +kernel) ?_
  show G Γ m_LW_law 63 (b1 + 1, b2 + 6) Q 734 [.ref 31, .ref 32, .ref 547, .ref 573, .int (w ((6 * c : Nat) : Int))] [.ref 32] μ
  refine g_arg 1 (by decide +kernel) (by decide) hL h3 hN.2 ?_
  show G Γ m_LW_law 63 (b1 + 1, b2 + 6) Q 740 [.ref 31, .ref 32, .ref 547, .ref 573, .int (w ((6 * c : Nat) : Int))] [.int (xs (6 * c + 1)), .ref 32] μ
  refine g_arg 2 (by decide +kernel) (by decide) hL h3 hN.2 ?_
  show G Γ m_LW_law 63 (b1 + 1, b2 + 6) Q 746 [.ref 31, .ref 32, .ref 547, .ref 573, .int (w ((6 * c : Nat) : Int))] [.int (xs (6 * c + 2)), .int (xs (6 * c + 1)), .ref 32] μ
  refine run_ok (pc' := 750) [(.i2l, 0, 0, 0), (.bipush 32, 0, 0, 0), (.lshl, 0, 0, 0)] _ _ _ _ (by decide +kernel) ?_
  show G Γ m_LW_law 63 (b1 + 1, b2 + 6) Q 750 [.ref 31, .ref 32, .ref 547, .ref 573, .int (w ((6 * c : Nat) : Int))] [.long ((xs (6 * c + 2)).toInt64 <<< ((w 32).toInt64 &&& 63)), .int (xs (6 * c + 1)), .ref 32] μ
  refine g_arg 3 (by decide +kernel) (by decide) hL h3 hN.2 ?_
  show G Γ m_LW_law 63 (b1 + 1, b2 + 6) Q 756 [.ref 31, .ref 32, .ref 547, .ref 573, .int (w ((6 * c : Nat) : Int))] [.int (xs (6 * c + 3)), .long ((xs (6 * c + 2)).toInt64 <<< ((w 32).toInt64 &&& 63)), .int (xs (6 * c + 1)), .ref 32] μ
  refine run_ok (pc' := 757) [(.i2l, 0, 0, 0)] _ _ _ _ (by decide +kernel) ?_
  show G Γ m_LW_law 63 (b1 + 1, b2 + 6) Q 757 [.ref 31, .ref 32, .ref 547, .ref 573, .int (w ((6 * c : Nat) : Int))] [.long (xs (6 * c + 3)).toInt64, .long ((xs (6 * c + 2)).toInt64 <<< ((w 32).toInt64 &&& 63)), .int (xs (6 * c + 1)), .ref 32] μ
  refine g_ldc2 (i := 85) (z := 4294967295) ll85 (by decide +kernel) ?_
  refine run_ok (pc' := 762) [(.land, 0, 0, 0), (.lor, 0, 0, 0)] _ _ _ _ (by decide +kernel) ?_
  show G Γ m_LW_law 63 (b1 + 1, b2 + 6) Q 762 [.ref 31, .ref 32, .ref 547, .ref 573, .int (w ((6 * c : Nat) : Int))] [.long ((xs (6 * c + 2)).toInt64 <<< ((w 32).toInt64 &&& 63) ||| ((xs (6 * c + 3)).toInt64 &&& wl 4294967295)), .int (xs (6 * c + 1)), .ref 32] μ
  refine g_invV (M := m_LW_law) (i := 87) (M' := m_FB_years) (b1 := b1 + 1) (b2 := b2 + 6) (As := [.int (xs (6 * c + 1)), .long ((xs (6 * c + 2)).toInt64 <<< ((w 32).toInt64 &&& 63) ||| ((xs (6 * c + 3)).toInt64 &&& wl 4294967295))]) (a := 32) (st := []) lk_12_87 (by decide +kernel) rfl (dk_FB_years 62) (Nat.le_of_ble_eq_true rfl) (Or.inl ⟨10, ob32 hN.1, rfl⟩) (S_years hf (by decide) (by omega) hK (xs (6 * c + 1)) ((xs (6 * c + 2)).toInt64 <<< ((w 32).toInt64 &&& 63) ||| ((xs (6 * c + 3)).toInt64 &&& wl 4294967295))) ?_
  rintro _ μ1 ⟨r, rfl, hx1, hc1⟩ hn1
  show G Γ m_LW_law 63 (b1 + 1, b2 + 6) Q 765 [.ref 31, .ref 32, .ref 547, .ref 573, .int (w ((6 * c : Nat) : Int))] [.int r] μ1
  refine run_ok (pc' := 766) [(.aload_n 2, 0, 0, 0)] _ _ _ _ (by decide +kernel) ?_
  show G Γ m_LW_law 63 (b1 + 1, b2 + 6) Q 766 [.ref 31, .ref 32, .ref 547, .ref 573, .int (w ((6 * c : Nat) : Int))] [.ref 547, .int r] μ1
  refine g_arg 1 (by decide +kernel) (by decide) hL h3 hx1 ?_
  show G Γ m_LW_law 63 (b1 + 1, b2 + 6) Q 772 [.ref 31, .ref 32, .ref 547, .ref 573, .int (w ((6 * c : Nat) : Int))] [.int (xs (6 * c + 1)), .ref 547, .int r] μ1
  refine g_arg 2 (by decide +kernel) (by decide) hL h3 hx1 ?_
  show G Γ m_LW_law 63 (b1 + 1, b2 + 6) Q 778 [.ref 31, .ref 32, .ref 547, .ref 573, .int (w ((6 * c : Nat) : Int))] [.int (xs (6 * c + 2)), .int (xs (6 * c + 1)), .ref 547, .int r] μ1
  refine run_ok (pc' := 782) [(.i2l, 0, 0, 0), (.bipush 32, 0, 0, 0), (.lshl, 0, 0, 0)] _ _ _ _ (by decide +kernel) ?_
  show G Γ m_LW_law 63 (b1 + 1, b2 + 6) Q 782 [.ref 31, .ref 32, .ref 547, .ref 573, .int (w ((6 * c : Nat) : Int))] [.long ((xs (6 * c + 2)).toInt64 <<< ((w 32).toInt64 &&& 63)), .int (xs (6 * c + 1)), .ref 547, .int r] μ1
  refine g_arg 3 (by decide +kernel) (by decide) hL h3 hx1 ?_
  show G Γ m_LW_law 63 (b1 + 1, b2 + 6) Q 788 [.ref 31, .ref 32, .ref 547, .ref 573, .int (w ((6 * c : Nat) : Int))] [.int (xs (6 * c + 3)), .long ((xs (6 * c + 2)).toInt64 <<< ((w 32).toInt64 &&& 63)), .int (xs (6 * c + 1)), .ref 547, .int r] μ1
  refine run_ok (pc' := 789) [(.i2l, 0, 0, 0)] _ _ _ _ (by decide +kernel) ?_
  show G Γ m_LW_law 63 (b1 + 1, b2 + 6) Q 789 [.ref 31, .ref 32, .ref 547, .ref 573, .int (w ((6 * c : Nat) : Int))] [.long (xs (6 * c + 3)).toInt64, .long ((xs (6 * c + 2)).toInt64 <<< ((w 32).toInt64 &&& 63)), .int (xs (6 * c + 1)), .ref 547, .int r] μ1
  refine g_ldc2 (i := 85) (z := 4294967295) ll85 (by decide +kernel) ?_
  refine run_ok (pc' := 794) [(.land, 0, 0, 0), (.lor, 0, 0, 0)] _ _ _ _ (by decide +kernel) ?_
  show G Γ m_LW_law 63 (b1 + 1, b2 + 6) Q 794 [.ref 31, .ref 32, .ref 547, .ref 573, .int (w ((6 * c : Nat) : Int))] [.long ((xs (6 * c + 2)).toInt64 <<< ((w 32).toInt64 &&& 63) ||| ((xs (6 * c + 3)).toInt64 &&& wl 4294967295)), .int (xs (6 * c + 1)), .ref 547, .int r] μ1
  refine g_invV (M := m_LW_law) (i := 91) (M' := m_MO_years) (b1 := b1 + 1) (b2 := b2 + 6) (As := [.int (xs (6 * c + 1)), .long ((xs (6 * c + 2)).toInt64 <<< ((w 32).toInt64 &&& 63) ||| ((xs (6 * c + 3)).toInt64 &&& wl 4294967295))]) (a := 547) (st := [.int r]) lk_12_91 (by decide +kernel) rfl (dk_MO_years 62) (Nat.le_of_ble_eq_true rfl) (Or.inl ⟨11, ob546 (Nat.le_trans hN.1 hn1), rfl⟩) hc1 ?_
  rintro _ μ2 ⟨r2, rfl, e2, hK2⟩ hn2
  subst e2
  show G Γ m_LW_law 63 (b1 + 1, b2 + 6) Q 797 [.ref 31, .ref 32, .ref 547, .ref 573, .int (w ((6 * c : Nat) : Int))] [.int r2, .int r2] μ2
  exact g_icmp_eq (pc' := 1689) (off := 892) (by decide) (by decide +kernel) (fun _ => g_less (next μ2 hK2)) (fun z => absurd rfl z)
set_option maxRecDepth 100000 in
theorem lk_12_92 : LkV 12 92 m_FB_undo 0 := ⟨lc_FB_undo, lwG_in (List.mem_of_getElem? (i := 826) rfl) rfl, lwG_in (List.mem_of_getElem? (i := 827) rfl) rfl, lwG_in (List.mem_of_getElem? (i := 828) rfl) rfl⟩
set_option maxRecDepth 100000 in
theorem lk_12_95 : LkV 12 95 m_MO_undo 0 := ⟨lc_MO_undo, lwG_in (List.mem_of_getElem? (i := 1728) rfl) rfl, lwG_in (List.mem_of_getElem? (i := 1729) rfl) rfl, lwG_in (List.mem_of_getElem? (i := 1730) rfl) rfl⟩
set_option maxRecDepth 100000 in
theorem LW_case15 {Γ : XG} {c b1 b2 : Nat} {Q : Option Value → XM → Prop} {μ : XM} {xs : Nat → Int32} (hf : FM Γ) (hc : c ≤ 511) (hL : 6 * c + 6 ≤ Γ.2.2.2.2.2.2) (h3 : Γ.2.2.2.2.2.2 ≤ 3072) (hK : KS xs μ c) (next : ∀ μ2, KS xs μ2 (c + 1) → G Γ m_LW_law 63 (b1, b2) Q 1689 [.ref 31, .ref 32, .ref 547, .ref 573, .int (w ((6 * c : Nat) : Int))] [] μ2) : G Γ m_LW_law 63 (b1 + 1, b2 + 6) Q 802 [.ref 31, .ref 32, .ref 547, .ref 573, .int (w ((6 * c : Nat) : Int))] [] μ := by
  have hN := hK.N
  refine run_ok (pc' := 803) [(.aload_n 1, 0, 0, 0)] _ _ _ _ (by decide +kernel) ?_
  show G Γ m_LW_law 63 (b1 + 1, b2 + 6) Q 803 [.ref 31, .ref 32, .ref 547, .ref 573, .int (w ((6 * c : Nat) : Int))] [.ref 32] μ
  refine g_invV (M := m_LW_law) (i := 92) (M' := m_FB_undo) (b1 := b1 + 1) (b2 := b2 + 6) (As := []) (a := 32) (st := []) lk_12_92 (by decide +kernel) rfl (dk_FB_undo 62) (Nat.le_of_ble_eq_true rfl) (Or.inl ⟨10, ob32 hN.1, rfl⟩) (S_undo hf (by decide) (by omega) hK ) ?_
  rintro _ μ1 ⟨r, rfl, hx1, hc1⟩ hn1
  show G Γ m_LW_law 63 (b1 + 1, b2 + 6) Q 806 [.ref 31, .ref 32, .ref 547, .ref 573, .int (w ((6 * c : Nat) : Int))] [.int r] μ1
  refine run_ok (pc' := 807) [(.aload_n 2, 0, 0, 0)] _ _ _ _ (by decide +kernel) ?_
  show G Γ m_LW_law 63 (b1 + 1, b2 + 6) Q 807 [.ref 31, .ref 32, .ref 547, .ref 573, .int (w ((6 * c : Nat) : Int))] [.ref 547, .int r] μ1
  refine g_invV (M := m_LW_law) (i := 95) (M' := m_MO_undo) (b1 := b1 + 1) (b2 := b2 + 6) (As := []) (a := 547) (st := [.int r]) lk_12_95 (by decide +kernel) rfl (dk_MO_undo 62) (Nat.le_of_ble_eq_true rfl) (Or.inl ⟨11, ob546 (Nat.le_trans hN.1 hn1), rfl⟩) hc1 ?_
  rintro _ μ2 ⟨r2, rfl, e2, hK2⟩ hn2
  subst e2
  show G Γ m_LW_law 63 (b1 + 1, b2 + 6) Q 810 [.ref 31, .ref 32, .ref 547, .ref 573, .int (w ((6 * c : Nat) : Int))] [.int r2, .int r2] μ2
  exact g_icmp_eq (pc' := 1689) (off := 879) (by decide) (by decide +kernel) (fun _ => g_less (next μ2 hK2)) (fun z => absurd rfl z)
set_option maxRecDepth 100000 in
theorem lk_12_96 : LkV 12 96 m_FB_log 2 := ⟨lc_FB_log, lwG_in (List.mem_of_getElem? (i := 834) rfl) rfl, lwG_in (List.mem_of_getElem? (i := 835) rfl) rfl, lwG_in (List.mem_of_getElem? (i := 836) rfl) rfl⟩
set_option maxRecDepth 100000 in
theorem lk_12_99 : LkV 12 99 m_MO_log 2 := ⟨lc_MO_log, lwG_in (List.mem_of_getElem? (i := 1732) rfl) rfl, lwG_in (List.mem_of_getElem? (i := 1733) rfl) rfl, lwG_in (List.mem_of_getElem? (i := 1734) rfl) rfl⟩
set_option maxRecDepth 100000 in
theorem LW_case16 {Γ : XG} {c b1 b2 : Nat} {Q : Option Value → XM → Prop} {μ : XM} {xs : Nat → Int32} (hf : FM Γ) (hc : c ≤ 511) (hL : 6 * c + 6 ≤ Γ.2.2.2.2.2.2) (h3 : Γ.2.2.2.2.2.2 ≤ 3072) (hK : KS xs μ c) (next : ∀ μ2, KS xs μ2 (c + 1) → G Γ m_LW_law 63 (b1, b2) Q 1689 [.ref 31, .ref 32, .ref 547, .ref 573, .int (w ((6 * c : Nat) : Int))] [] μ2) : G Γ m_LW_law 63 (b1 + 1, b2 + 6) Q 815 [.ref 31, .ref 32, .ref 547, .ref 573, .int (w ((6 * c : Nat) : Int))] [] μ := by
  have hN := hK.N
  refine run_ok (pc' := 816) [(.aload_n 1, 0, 0, 0)] _ _ _ _ (by decide +kernel) ?_
  show G Γ m_LW_law 63 (b1 + 1, b2 + 6) Q 816 [.ref 31, .ref 32, .ref 547, .ref 573, .int (w ((6 * c : Nat) : Int))] [.ref 32] μ
  refine g_arg 1 (by decide +kernel) (by decide) hL h3 hN.2 ?_
  show G Γ m_LW_law 63 (b1 + 1, b2 + 6) Q 822 [.ref 31, .ref 32, .ref 547, .ref 573, .int (w ((6 * c : Nat) : Int))] [.int (xs (6 * c + 1)), .ref 32] μ
  refine g_arg 2 (by decide +kernel) (by decide) hL h3 hN.2 ?_
  show G Γ m_LW_law 63 (b1 + 1, b2 + 6) Q 828 [.ref 31, .ref 32, .ref 547, .ref 573, .int (w ((6 * c : Nat) : Int))] [.int (xs (6 * c + 2)), .int (xs (6 * c + 1)), .ref 32] μ
  refine g_invV (M := m_LW_law) (i := 96) (M' := m_FB_log) (b1 := b1 + 1) (b2 := b2 + 6) (As := [.int (xs (6 * c + 1)), .int (xs (6 * c + 2))]) (a := 32) (st := []) lk_12_96 (by decide +kernel) rfl (dk_FB_log 62) (Nat.le_of_ble_eq_true rfl) (Or.inl ⟨10, ob32 hN.1, rfl⟩) (S_log hf (by decide) (by omega) hK (xs (6 * c + 1)) (xs (6 * c + 2))) ?_
  rintro _ μ1 ⟨r, rfl, hx1, hc1⟩ hn1
  show G Γ m_LW_law 63 (b1 + 1, b2 + 6) Q 831 [.ref 31, .ref 32, .ref 547, .ref 573, .int (w ((6 * c : Nat) : Int))] [.int r] μ1
  refine run_ok (pc' := 832) [(.aload_n 2, 0, 0, 0)] _ _ _ _ (by decide +kernel) ?_
  show G Γ m_LW_law 63 (b1 + 1, b2 + 6) Q 832 [.ref 31, .ref 32, .ref 547, .ref 573, .int (w ((6 * c : Nat) : Int))] [.ref 547, .int r] μ1
  refine g_arg 1 (by decide +kernel) (by decide) hL h3 hx1 ?_
  show G Γ m_LW_law 63 (b1 + 1, b2 + 6) Q 838 [.ref 31, .ref 32, .ref 547, .ref 573, .int (w ((6 * c : Nat) : Int))] [.int (xs (6 * c + 1)), .ref 547, .int r] μ1
  refine g_arg 2 (by decide +kernel) (by decide) hL h3 hx1 ?_
  show G Γ m_LW_law 63 (b1 + 1, b2 + 6) Q 844 [.ref 31, .ref 32, .ref 547, .ref 573, .int (w ((6 * c : Nat) : Int))] [.int (xs (6 * c + 2)), .int (xs (6 * c + 1)), .ref 547, .int r] μ1
  refine g_invV (M := m_LW_law) (i := 99) (M' := m_MO_log) (b1 := b1 + 1) (b2 := b2 + 6) (As := [.int (xs (6 * c + 1)), .int (xs (6 * c + 2))]) (a := 547) (st := [.int r]) lk_12_99 (by decide +kernel) rfl (dk_MO_log 62) (Nat.le_of_ble_eq_true rfl) (Or.inl ⟨11, ob546 (Nat.le_trans hN.1 hn1), rfl⟩) hc1 ?_
  rintro _ μ2 ⟨r2, rfl, e2, hK2⟩ hn2
  subst e2
  show G Γ m_LW_law 63 (b1 + 1, b2 + 6) Q 847 [.ref 31, .ref 32, .ref 547, .ref 573, .int (w ((6 * c : Nat) : Int))] [.int r2, .int r2] μ2
  exact g_icmp_eq (pc' := 1689) (off := 842) (by decide) (by decide +kernel) (fun _ => g_less (next μ2 hK2)) (fun z => absurd rfl z)
set_option maxRecDepth 100000 in
theorem lk_12_100 : LkV 12 100 m_FB_step 3 := ⟨lc_FB_step, lwG_in (List.mem_of_getElem? (i := 869) rfl) rfl, lwG_in (List.mem_of_getElem? (i := 870) rfl) rfl, lwG_in (List.mem_of_getElem? (i := 871) rfl) rfl⟩
set_option maxRecDepth 100000 in
theorem lk_12_104 : LkV 12 104 m_MO_step 3 := ⟨lc_MO_step, lwG_in (List.mem_of_getElem? (i := 1736) rfl) rfl, lwG_in (List.mem_of_getElem? (i := 1737) rfl) rfl, lwG_in (List.mem_of_getElem? (i := 1738) rfl) rfl⟩
set_option maxRecDepth 100000 in
theorem LW_case17 {Γ : XG} {c b1 b2 : Nat} {Q : Option Value → XM → Prop} {μ : XM} {xs : Nat → Int32} (hf : FM Γ) (hc : c ≤ 511) (hL : 6 * c + 6 ≤ Γ.2.2.2.2.2.2) (h3 : Γ.2.2.2.2.2.2 ≤ 3072) (hK : KS xs μ c) (next : ∀ μ2, KS xs μ2 (c + 1) → G Γ m_LW_law 63 (b1, b2) Q 1689 [.ref 31, .ref 32, .ref 547, .ref 573, .int (w ((6 * c : Nat) : Int))] [] μ2) : G Γ m_LW_law 63 (b1 + 1, b2 + 6) Q 852 [.ref 31, .ref 32, .ref 547, .ref 573, .int (w ((6 * c : Nat) : Int))] [] μ := by
  have hN := hK.N
  refine run_ok (pc' := 853) [(.aload_n 1, 0, 0, 0)] _ _ _ _ (by decide +kernel) ?_
  show G Γ m_LW_law 63 (b1 + 1, b2 + 6) Q 853 [.ref 31, .ref 32, .ref 547, .ref 573, .int (w ((6 * c : Nat) : Int))] [.ref 32] μ
  refine g_arg 1 (by decide +kernel) (by decide) hL h3 hN.2 ?_
  show G Γ m_LW_law 63 (b1 + 1, b2 + 6) Q 859 [.ref 31, .ref 32, .ref 547, .ref 573, .int (w ((6 * c : Nat) : Int))] [.int (xs (6 * c + 1)), .ref 32] μ
  refine g_arg 2 (by decide +kernel) (by decide) hL h3 hN.2 ?_
  show G Γ m_LW_law 63 (b1 + 1, b2 + 6) Q 865 [.ref 31, .ref 32, .ref 547, .ref 573, .int (w ((6 * c : Nat) : Int))] [.int (xs (6 * c + 2)), .int (xs (6 * c + 1)), .ref 32] μ
  refine g_arg 3 (by decide +kernel) (by decide) hL h3 hN.2 ?_
  show G Γ m_LW_law 63 (b1 + 1, b2 + 6) Q 871 [.ref 31, .ref 32, .ref 547, .ref 573, .int (w ((6 * c : Nat) : Int))] [.int (xs (6 * c + 3)), .int (xs (6 * c + 2)), .int (xs (6 * c + 1)), .ref 32] μ
  refine g_invV (M := m_LW_law) (i := 100) (M' := m_FB_step) (b1 := b1 + 1) (b2 := b2 + 6) (As := [.int (xs (6 * c + 1)), .int (xs (6 * c + 2)), .int (xs (6 * c + 3))]) (a := 32) (st := []) lk_12_100 (by decide +kernel) rfl (dk_FB_step 62) (Nat.le_of_ble_eq_true rfl) (Or.inl ⟨10, ob32 hN.1, rfl⟩) (S_step hf (by decide) (by omega) hK (xs (6 * c + 1)) (xs (6 * c + 2)) (xs (6 * c + 3))) ?_
  rintro _ μ1 ⟨r, rfl, hx1, hc1⟩ hn1
  show G Γ m_LW_law 63 (b1 + 1, b2 + 6) Q 874 [.ref 31, .ref 32, .ref 547, .ref 573, .int (w ((6 * c : Nat) : Int))] [.int r] μ1
  refine run_ok (pc' := 875) [(.aload_n 2, 0, 0, 0)] _ _ _ _ (by decide +kernel) ?_
  show G Γ m_LW_law 63 (b1 + 1, b2 + 6) Q 875 [.ref 31, .ref 32, .ref 547, .ref 573, .int (w ((6 * c : Nat) : Int))] [.ref 547, .int r] μ1
  refine g_arg 1 (by decide +kernel) (by decide) hL h3 hx1 ?_
  show G Γ m_LW_law 63 (b1 + 1, b2 + 6) Q 881 [.ref 31, .ref 32, .ref 547, .ref 573, .int (w ((6 * c : Nat) : Int))] [.int (xs (6 * c + 1)), .ref 547, .int r] μ1
  refine g_arg 2 (by decide +kernel) (by decide) hL h3 hx1 ?_
  show G Γ m_LW_law 63 (b1 + 1, b2 + 6) Q 887 [.ref 31, .ref 32, .ref 547, .ref 573, .int (w ((6 * c : Nat) : Int))] [.int (xs (6 * c + 2)), .int (xs (6 * c + 1)), .ref 547, .int r] μ1
  refine g_arg 3 (by decide +kernel) (by decide) hL h3 hx1 ?_
  show G Γ m_LW_law 63 (b1 + 1, b2 + 6) Q 893 [.ref 31, .ref 32, .ref 547, .ref 573, .int (w ((6 * c : Nat) : Int))] [.int (xs (6 * c + 3)), .int (xs (6 * c + 2)), .int (xs (6 * c + 1)), .ref 547, .int r] μ1
  refine g_invV (M := m_LW_law) (i := 104) (M' := m_MO_step) (b1 := b1 + 1) (b2 := b2 + 6) (As := [.int (xs (6 * c + 1)), .int (xs (6 * c + 2)), .int (xs (6 * c + 3))]) (a := 547) (st := [.int r]) lk_12_104 (by decide +kernel) rfl (dk_MO_step 62) (Nat.le_of_ble_eq_true rfl) (Or.inl ⟨11, ob546 (Nat.le_trans hN.1 hn1), rfl⟩) hc1 ?_
  rintro _ μ2 ⟨r2, rfl, e2, hK2⟩ hn2
  subst e2
  show G Γ m_LW_law 63 (b1 + 1, b2 + 6) Q 896 [.ref 31, .ref 32, .ref 547, .ref 573, .int (w ((6 * c : Nat) : Int))] [.int r2, .int r2] μ2
  exact g_icmp_eq (pc' := 1689) (off := 793) (by decide) (by decide +kernel) (fun _ => g_less (next μ2 hK2)) (fun z => absurd rfl z)
set_option maxRecDepth 100000 in
theorem lk_12_105 : LkV 12 105 m_FB_run 2 := ⟨lc_FB_run, lwG_in (List.mem_of_getElem? (i := 882) rfl) rfl, lwG_in (List.mem_of_getElem? (i := 883) rfl) rfl, lwG_in (List.mem_of_getElem? (i := 884) rfl) rfl⟩
set_option maxRecDepth 100000 in
theorem lk_12_108 : LkV 12 108 m_MO_run 2 := ⟨lc_MO_run, lwG_in (List.mem_of_getElem? (i := 1745) rfl) rfl, lwG_in (List.mem_of_getElem? (i := 1746) rfl) rfl, lwG_in (List.mem_of_getElem? (i := 1747) rfl) rfl⟩
set_option maxRecDepth 100000 in
theorem LW_case18 {Γ : XG} {c b1 b2 : Nat} {Q : Option Value → XM → Prop} {μ : XM} {xs : Nat → Int32} (hf : FM Γ) (hc : c ≤ 511) (hL : 6 * c + 6 ≤ Γ.2.2.2.2.2.2) (h3 : Γ.2.2.2.2.2.2 ≤ 3072) (hK : KS xs μ c) (next : ∀ μ2, KS xs μ2 (c + 1) → G Γ m_LW_law 63 (b1, b2) Q 1689 [.ref 31, .ref 32, .ref 547, .ref 573, .int (w ((6 * c : Nat) : Int))] [] μ2) : G Γ m_LW_law 63 (b1 + 1, b2 + 6) Q 901 [.ref 31, .ref 32, .ref 547, .ref 573, .int (w ((6 * c : Nat) : Int))] [] μ := by
  have hN := hK.N
  refine run_ok (pc' := 902) [(.aload_n 1, 0, 0, 0)] _ _ _ _ (by decide +kernel) ?_
  show G Γ m_LW_law 63 (b1 + 1, b2 + 6) Q 902 [.ref 31, .ref 32, .ref 547, .ref 573, .int (w ((6 * c : Nat) : Int))] [.ref 32] μ
  refine g_arg 1 (by decide +kernel) (by decide) hL h3 hN.2 ?_
  show G Γ m_LW_law 63 (b1 + 1, b2 + 6) Q 908 [.ref 31, .ref 32, .ref 547, .ref 573, .int (w ((6 * c : Nat) : Int))] [.int (xs (6 * c + 1)), .ref 32] μ
  refine g_arg 2 (by decide +kernel) (by decide) hL h3 hN.2 ?_
  show G Γ m_LW_law 63 (b1 + 1, b2 + 6) Q 914 [.ref 31, .ref 32, .ref 547, .ref 573, .int (w ((6 * c : Nat) : Int))] [.int (xs (6 * c + 2)), .int (xs (6 * c + 1)), .ref 32] μ
  refine g_invV (M := m_LW_law) (i := 105) (M' := m_FB_run) (b1 := b1 + 1) (b2 := b2 + 6) (As := [.int (xs (6 * c + 1)), .int (xs (6 * c + 2))]) (a := 32) (st := []) lk_12_105 (by decide +kernel) rfl (dk_FB_run 62) (Nat.le_of_ble_eq_true rfl) (Or.inl ⟨10, ob32 hN.1, rfl⟩) (S_run hf (by decide) (by omega) hK (xs (6 * c + 1)) (xs (6 * c + 2))) ?_
  rintro _ μ1 ⟨r, rfl, hx1, hc1⟩ hn1
  show G Γ m_LW_law 63 (b1 + 1, b2 + 6) Q 917 [.ref 31, .ref 32, .ref 547, .ref 573, .int (w ((6 * c : Nat) : Int))] [.int r] μ1
  refine run_ok (pc' := 918) [(.aload_n 2, 0, 0, 0)] _ _ _ _ (by decide +kernel) ?_
  show G Γ m_LW_law 63 (b1 + 1, b2 + 6) Q 918 [.ref 31, .ref 32, .ref 547, .ref 573, .int (w ((6 * c : Nat) : Int))] [.ref 547, .int r] μ1
  refine g_arg 1 (by decide +kernel) (by decide) hL h3 hx1 ?_
  show G Γ m_LW_law 63 (b1 + 1, b2 + 6) Q 924 [.ref 31, .ref 32, .ref 547, .ref 573, .int (w ((6 * c : Nat) : Int))] [.int (xs (6 * c + 1)), .ref 547, .int r] μ1
  refine g_arg 2 (by decide +kernel) (by decide) hL h3 hx1 ?_
  show G Γ m_LW_law 63 (b1 + 1, b2 + 6) Q 930 [.ref 31, .ref 32, .ref 547, .ref 573, .int (w ((6 * c : Nat) : Int))] [.int (xs (6 * c + 2)), .int (xs (6 * c + 1)), .ref 547, .int r] μ1
  refine g_invV (M := m_LW_law) (i := 108) (M' := m_MO_run) (b1 := b1 + 1) (b2 := b2 + 6) (As := [.int (xs (6 * c + 1)), .int (xs (6 * c + 2))]) (a := 547) (st := [.int r]) lk_12_108 (by decide +kernel) rfl (dk_MO_run 62) (Nat.le_of_ble_eq_true rfl) (Or.inl ⟨11, ob546 (Nat.le_trans hN.1 hn1), rfl⟩) hc1 ?_
  rintro _ μ2 ⟨r2, rfl, e2, hK2⟩ hn2
  subst e2
  show G Γ m_LW_law 63 (b1 + 1, b2 + 6) Q 933 [.ref 31, .ref 32, .ref 547, .ref 573, .int (w ((6 * c : Nat) : Int))] [.int r2, .int r2] μ2
  exact g_icmp_eq (pc' := 1689) (off := 756) (by decide) (by decide +kernel) (fun _ => g_less (next μ2 hK2)) (fun z => absurd rfl z)
set_option maxRecDepth 100000 in
theorem lk_12_109 : LkV 12 109 m_FB_perform 1 := ⟨lc_FB_perform, lwG_in (List.mem_of_getElem? (i := 894) rfl) rfl, lwG_in (List.mem_of_getElem? (i := 895) rfl) rfl, lwG_in (List.mem_of_getElem? (i := 896) rfl) rfl⟩
set_option maxRecDepth 100000 in
theorem lk_12_112 : LkV 12 112 m_MO_perform 1 := ⟨lc_MO_perform, lwG_in (List.mem_of_getElem? (i := 1764) rfl) rfl, lwG_in (List.mem_of_getElem? (i := 1765) rfl) rfl, lwG_in (List.mem_of_getElem? (i := 1766) rfl) rfl⟩
set_option maxRecDepth 100000 in
theorem LW_case19 {Γ : XG} {c b1 b2 : Nat} {Q : Option Value → XM → Prop} {μ : XM} {xs : Nat → Int32} (hf : FM Γ) (hc : c ≤ 511) (hL : 6 * c + 6 ≤ Γ.2.2.2.2.2.2) (h3 : Γ.2.2.2.2.2.2 ≤ 3072) (hK : KS xs μ c) (next : ∀ μ2, KS xs μ2 (c + 1) → G Γ m_LW_law 63 (b1, b2) Q 1689 [.ref 31, .ref 32, .ref 547, .ref 573, .int (w ((6 * c : Nat) : Int))] [] μ2) : G Γ m_LW_law 63 (b1 + 1, b2 + 6) Q 938 [.ref 31, .ref 32, .ref 547, .ref 573, .int (w ((6 * c : Nat) : Int))] [] μ := by
  have hN := hK.N
  refine run_ok (pc' := 939) [(.aload_n 1, 0, 0, 0)] _ _ _ _ (by decide +kernel) ?_
  show G Γ m_LW_law 63 (b1 + 1, b2 + 6) Q 939 [.ref 31, .ref 32, .ref 547, .ref 573, .int (w ((6 * c : Nat) : Int))] [.ref 32] μ
  refine g_arg 1 (by decide +kernel) (by decide) hL h3 hN.2 ?_
  show G Γ m_LW_law 63 (b1 + 1, b2 + 6) Q 945 [.ref 31, .ref 32, .ref 547, .ref 573, .int (w ((6 * c : Nat) : Int))] [.int (xs (6 * c + 1)), .ref 32] μ
  refine g_invV (M := m_LW_law) (i := 109) (M' := m_FB_perform) (b1 := b1 + 1) (b2 := b2 + 6) (As := [.int (xs (6 * c + 1))]) (a := 32) (st := []) lk_12_109 (by decide +kernel) rfl (dk_FB_perform 62) (Nat.le_of_ble_eq_true rfl) (Or.inl ⟨10, ob32 hN.1, rfl⟩) (S_perform hf (by decide) (by omega) hK (xs (6 * c + 1))) ?_
  rintro _ μ1 ⟨r, rfl, hx1, hc1⟩ hn1
  show G Γ m_LW_law 63 (b1 + 1, b2 + 6) Q 948 [.ref 31, .ref 32, .ref 547, .ref 573, .int (w ((6 * c : Nat) : Int))] [.int r] μ1
  refine run_ok (pc' := 949) [(.aload_n 2, 0, 0, 0)] _ _ _ _ (by decide +kernel) ?_
  show G Γ m_LW_law 63 (b1 + 1, b2 + 6) Q 949 [.ref 31, .ref 32, .ref 547, .ref 573, .int (w ((6 * c : Nat) : Int))] [.ref 547, .int r] μ1
  refine g_arg 1 (by decide +kernel) (by decide) hL h3 hx1 ?_
  show G Γ m_LW_law 63 (b1 + 1, b2 + 6) Q 955 [.ref 31, .ref 32, .ref 547, .ref 573, .int (w ((6 * c : Nat) : Int))] [.int (xs (6 * c + 1)), .ref 547, .int r] μ1
  refine g_invV (M := m_LW_law) (i := 112) (M' := m_MO_perform) (b1 := b1 + 1) (b2 := b2 + 6) (As := [.int (xs (6 * c + 1))]) (a := 547) (st := [.int r]) lk_12_112 (by decide +kernel) rfl (dk_MO_perform 62) (Nat.le_of_ble_eq_true rfl) (Or.inl ⟨11, ob546 (Nat.le_trans hN.1 hn1), rfl⟩) hc1 ?_
  rintro _ μ2 ⟨r2, rfl, e2, hK2⟩ hn2
  subst e2
  show G Γ m_LW_law 63 (b1 + 1, b2 + 6) Q 958 [.ref 31, .ref 32, .ref 547, .ref 573, .int (w ((6 * c : Nat) : Int))] [.int r2, .int r2] μ2
  exact g_icmp_eq (pc' := 1689) (off := 731) (by decide) (by decide +kernel) (fun _ => g_less (next μ2 hK2)) (fun z => absurd rfl z)
set_option maxRecDepth 100000 in
theorem lk_12_113 : LkV 12 113 m_FB_dinner 2 := ⟨lc_FB_dinner, lwG_in (List.mem_of_getElem? (i := 902) rfl) rfl, lwG_in (List.mem_of_getElem? (i := 903) rfl) rfl, lwG_in (List.mem_of_getElem? (i := 904) rfl) rfl⟩
set_option maxRecDepth 100000 in
theorem lk_12_116 : LkV 12 116 m_MO_dinner 2 := ⟨lc_MO_dinner, lwG_in (List.mem_of_getElem? (i := 1768) rfl) rfl, lwG_in (List.mem_of_getElem? (i := 1769) rfl) rfl, lwG_in (List.mem_of_getElem? (i := 1770) rfl) rfl⟩
set_option maxRecDepth 100000 in
theorem LW_case20 {Γ : XG} {c b1 b2 : Nat} {Q : Option Value → XM → Prop} {μ : XM} {xs : Nat → Int32} (hf : FM Γ) (hc : c ≤ 511) (hL : 6 * c + 6 ≤ Γ.2.2.2.2.2.2) (h3 : Γ.2.2.2.2.2.2 ≤ 3072) (hK : KS xs μ c) (next : ∀ μ2, KS xs μ2 (c + 1) → G Γ m_LW_law 63 (b1, b2) Q 1689 [.ref 31, .ref 32, .ref 547, .ref 573, .int (w ((6 * c : Nat) : Int))] [] μ2) : G Γ m_LW_law 63 (b1 + 1, b2 + 6) Q 963 [.ref 31, .ref 32, .ref 547, .ref 573, .int (w ((6 * c : Nat) : Int))] [] μ := by
  have hN := hK.N
  refine run_ok (pc' := 964) [(.aload_n 1, 0, 0, 0)] _ _ _ _ (by decide +kernel) ?_
  show G Γ m_LW_law 63 (b1 + 1, b2 + 6) Q 964 [.ref 31, .ref 32, .ref 547, .ref 573, .int (w ((6 * c : Nat) : Int))] [.ref 32] μ
  refine g_arg 1 (by decide +kernel) (by decide) hL h3 hN.2 ?_
  show G Γ m_LW_law 63 (b1 + 1, b2 + 6) Q 970 [.ref 31, .ref 32, .ref 547, .ref 573, .int (w ((6 * c : Nat) : Int))] [.int (xs (6 * c + 1)), .ref 32] μ
  refine g_arg 2 (by decide +kernel) (by decide) hL h3 hN.2 ?_
  show G Γ m_LW_law 63 (b1 + 1, b2 + 6) Q 976 [.ref 31, .ref 32, .ref 547, .ref 573, .int (w ((6 * c : Nat) : Int))] [.int (xs (6 * c + 2)), .int (xs (6 * c + 1)), .ref 32] μ
  refine g_invV (M := m_LW_law) (i := 113) (M' := m_FB_dinner) (b1 := b1 + 1) (b2 := b2 + 6) (As := [.int (xs (6 * c + 1)), .int (xs (6 * c + 2))]) (a := 32) (st := []) lk_12_113 (by decide +kernel) rfl (dk_FB_dinner 62) (Nat.le_of_ble_eq_true rfl) (Or.inl ⟨10, ob32 hN.1, rfl⟩) (S_dinner hf (by decide) (by omega) hK (xs (6 * c + 1)) (xs (6 * c + 2))) ?_
  rintro _ μ1 ⟨r, rfl, hx1, hc1⟩ hn1
  show G Γ m_LW_law 63 (b1 + 1, b2 + 6) Q 979 [.ref 31, .ref 32, .ref 547, .ref 573, .int (w ((6 * c : Nat) : Int))] [.int r] μ1
  refine run_ok (pc' := 980) [(.aload_n 2, 0, 0, 0)] _ _ _ _ (by decide +kernel) ?_
  show G Γ m_LW_law 63 (b1 + 1, b2 + 6) Q 980 [.ref 31, .ref 32, .ref 547, .ref 573, .int (w ((6 * c : Nat) : Int))] [.ref 547, .int r] μ1
  refine g_arg 1 (by decide +kernel) (by decide) hL h3 hx1 ?_
  show G Γ m_LW_law 63 (b1 + 1, b2 + 6) Q 986 [.ref 31, .ref 32, .ref 547, .ref 573, .int (w ((6 * c : Nat) : Int))] [.int (xs (6 * c + 1)), .ref 547, .int r] μ1
  refine g_arg 2 (by decide +kernel) (by decide) hL h3 hx1 ?_
  show G Γ m_LW_law 63 (b1 + 1, b2 + 6) Q 992 [.ref 31, .ref 32, .ref 547, .ref 573, .int (w ((6 * c : Nat) : Int))] [.int (xs (6 * c + 2)), .int (xs (6 * c + 1)), .ref 547, .int r] μ1
  refine g_invV (M := m_LW_law) (i := 116) (M' := m_MO_dinner) (b1 := b1 + 1) (b2 := b2 + 6) (As := [.int (xs (6 * c + 1)), .int (xs (6 * c + 2))]) (a := 547) (st := [.int r]) lk_12_116 (by decide +kernel) rfl (dk_MO_dinner 62) (Nat.le_of_ble_eq_true rfl) (Or.inl ⟨11, ob546 (Nat.le_trans hN.1 hn1), rfl⟩) hc1 ?_
  rintro _ μ2 ⟨r2, rfl, e2, hK2⟩ hn2
  subst e2
  show G Γ m_LW_law 63 (b1 + 1, b2 + 6) Q 995 [.ref 31, .ref 32, .ref 547, .ref 573, .int (w ((6 * c : Nat) : Int))] [.int r2, .int r2] μ2
  exact g_icmp_eq (pc' := 1689) (off := 694) (by decide) (by decide +kernel) (fun _ => g_less (next μ2 hK2)) (fun z => absurd rfl z)
set_option maxRecDepth 100000 in
theorem lk_12_117 : LkV 12 117 m_FB_eat 1 := ⟨lc_FB_eat, lwG_in (List.mem_of_getElem? (i := 930) rfl) rfl, lwG_in (List.mem_of_getElem? (i := 931) rfl) rfl, lwG_in (List.mem_of_getElem? (i := 932) rfl) rfl⟩
set_option maxRecDepth 100000 in
theorem lk_12_120 : LkV 12 120 m_MO_eat 1 := ⟨lc_MO_eat, lwG_in (List.mem_of_getElem? (i := 1785) rfl) rfl, lwG_in (List.mem_of_getElem? (i := 1786) rfl) rfl, lwG_in (List.mem_of_getElem? (i := 1787) rfl) rfl⟩
set_option maxRecDepth 100000 in
theorem LW_case21 {Γ : XG} {c b1 b2 : Nat} {Q : Option Value → XM → Prop} {μ : XM} {xs : Nat → Int32} (hf : FM Γ) (hc : c ≤ 511) (hL : 6 * c + 6 ≤ Γ.2.2.2.2.2.2) (h3 : Γ.2.2.2.2.2.2 ≤ 3072) (hK : KS xs μ c) (next : ∀ μ2, KS xs μ2 (c + 1) → G Γ m_LW_law 63 (b1, b2) Q 1689 [.ref 31, .ref 32, .ref 547, .ref 573, .int (w ((6 * c : Nat) : Int))] [] μ2) : G Γ m_LW_law 63 (b1 + 1, b2 + 6) Q 1000 [.ref 31, .ref 32, .ref 547, .ref 573, .int (w ((6 * c : Nat) : Int))] [] μ := by
  have hN := hK.N
  refine run_ok (pc' := 1001) [(.aload_n 1, 0, 0, 0)] _ _ _ _ (by decide +kernel) ?_
  show G Γ m_LW_law 63 (b1 + 1, b2 + 6) Q 1001 [.ref 31, .ref 32, .ref 547, .ref 573, .int (w ((6 * c : Nat) : Int))] [.ref 32] μ
  refine g_arg 1 (by decide +kernel) (by decide) hL h3 hN.2 ?_
  show G Γ m_LW_law 63 (b1 + 1, b2 + 6) Q 1007 [.ref 31, .ref 32, .ref 547, .ref 573, .int (w ((6 * c : Nat) : Int))] [.int (xs (6 * c + 1)), .ref 32] μ
  refine g_invV (M := m_LW_law) (i := 117) (M' := m_FB_eat) (b1 := b1 + 1) (b2 := b2 + 6) (As := [.int (xs (6 * c + 1))]) (a := 32) (st := []) lk_12_117 (by decide +kernel) rfl (dk_FB_eat 62) (Nat.le_of_ble_eq_true rfl) (Or.inl ⟨10, ob32 hN.1, rfl⟩) (S_eat hf (by decide) (by omega) hK (xs (6 * c + 1))) ?_
  rintro _ μ1 ⟨r, rfl, hx1, hc1⟩ hn1
  show G Γ m_LW_law 63 (b1 + 1, b2 + 6) Q 1010 [.ref 31, .ref 32, .ref 547, .ref 573, .int (w ((6 * c : Nat) : Int))] [.int r] μ1
  refine run_ok (pc' := 1011) [(.aload_n 2, 0, 0, 0)] _ _ _ _ (by decide +kernel) ?_
  show G Γ m_LW_law 63 (b1 + 1, b2 + 6) Q 1011 [.ref 31, .ref 32, .ref 547, .ref 573, .int (w ((6 * c : Nat) : Int))] [.ref 547, .int r] μ1
  refine g_arg 1 (by decide +kernel) (by decide) hL h3 hx1 ?_
  show G Γ m_LW_law 63 (b1 + 1, b2 + 6) Q 1017 [.ref 31, .ref 32, .ref 547, .ref 573, .int (w ((6 * c : Nat) : Int))] [.int (xs (6 * c + 1)), .ref 547, .int r] μ1
  refine g_invV (M := m_LW_law) (i := 120) (M' := m_MO_eat) (b1 := b1 + 1) (b2 := b2 + 6) (As := [.int (xs (6 * c + 1))]) (a := 547) (st := [.int r]) lk_12_120 (by decide +kernel) rfl (dk_MO_eat 62) (Nat.le_of_ble_eq_true rfl) (Or.inl ⟨11, ob546 (Nat.le_trans hN.1 hn1), rfl⟩) hc1 ?_
  rintro _ μ2 ⟨r2, rfl, e2, hK2⟩ hn2
  subst e2
  show G Γ m_LW_law 63 (b1 + 1, b2 + 6) Q 1020 [.ref 31, .ref 32, .ref 547, .ref 573, .int (w ((6 * c : Nat) : Int))] [.int r2, .int r2] μ2
  exact g_icmp_eq (pc' := 1689) (off := 669) (by decide) (by decide +kernel) (fun _ => g_less (next μ2 hK2)) (fun z => absurd rfl z)
set_option maxRecDepth 100000 in
theorem lk_12_121 : LkV 12 121 m_FB_costs 1 := ⟨lc_FB_costs, lwG_in (List.mem_of_getElem? (i := 960) rfl) rfl, lwG_in (List.mem_of_getElem? (i := 961) rfl) rfl, lwG_in (List.mem_of_getElem? (i := 962) rfl) rfl⟩
set_option maxRecDepth 100000 in
theorem lk_12_124 : LkV 12 124 m_MO_costs 1 := ⟨lc_MO_costs, lwG_in (List.mem_of_getElem? (i := 1798) rfl) rfl, lwG_in (List.mem_of_getElem? (i := 1799) rfl) rfl, lwG_in (List.mem_of_getElem? (i := 1800) rfl) rfl⟩
set_option maxRecDepth 100000 in
theorem LW_case22 {Γ : XG} {c b1 b2 : Nat} {Q : Option Value → XM → Prop} {μ : XM} {xs : Nat → Int32} (hf : FM Γ) (hc : c ≤ 511) (hL : 6 * c + 6 ≤ Γ.2.2.2.2.2.2) (h3 : Γ.2.2.2.2.2.2 ≤ 3072) (hK : KS xs μ c) (next : ∀ μ2, KS xs μ2 (c + 1) → G Γ m_LW_law 63 (b1, b2) Q 1689 [.ref 31, .ref 32, .ref 547, .ref 573, .int (w ((6 * c : Nat) : Int))] [] μ2) : G Γ m_LW_law 63 (b1 + 1, b2 + 6) Q 1025 [.ref 31, .ref 32, .ref 547, .ref 573, .int (w ((6 * c : Nat) : Int))] [] μ := by
  have hN := hK.N
  refine run_ok (pc' := 1026) [(.aload_n 1, 0, 0, 0)] _ _ _ _ (by decide +kernel) ?_
  show G Γ m_LW_law 63 (b1 + 1, b2 + 6) Q 1026 [.ref 31, .ref 32, .ref 547, .ref 573, .int (w ((6 * c : Nat) : Int))] [.ref 32] μ
  refine g_arg 1 (by decide +kernel) (by decide) hL h3 hN.2 ?_
  show G Γ m_LW_law 63 (b1 + 1, b2 + 6) Q 1032 [.ref 31, .ref 32, .ref 547, .ref 573, .int (w ((6 * c : Nat) : Int))] [.int (xs (6 * c + 1)), .ref 32] μ
  refine g_invV (M := m_LW_law) (i := 121) (M' := m_FB_costs) (b1 := b1 + 1) (b2 := b2 + 6) (As := [.int (xs (6 * c + 1))]) (a := 32) (st := []) lk_12_121 (by decide +kernel) rfl (dk_FB_costs 62) (Nat.le_of_ble_eq_true rfl) (Or.inl ⟨10, ob32 hN.1, rfl⟩) (S_costs hf (by decide) (by omega) hK (xs (6 * c + 1))) ?_
  rintro _ μ1 ⟨r, rfl, hx1, hc1⟩ hn1
  show G Γ m_LW_law 63 (b1 + 1, b2 + 6) Q 1035 [.ref 31, .ref 32, .ref 547, .ref 573, .int (w ((6 * c : Nat) : Int))] [.int r] μ1
  refine run_ok (pc' := 1036) [(.aload_n 2, 0, 0, 0)] _ _ _ _ (by decide +kernel) ?_
  show G Γ m_LW_law 63 (b1 + 1, b2 + 6) Q 1036 [.ref 31, .ref 32, .ref 547, .ref 573, .int (w ((6 * c : Nat) : Int))] [.ref 547, .int r] μ1
  refine g_arg 1 (by decide +kernel) (by decide) hL h3 hx1 ?_
  show G Γ m_LW_law 63 (b1 + 1, b2 + 6) Q 1042 [.ref 31, .ref 32, .ref 547, .ref 573, .int (w ((6 * c : Nat) : Int))] [.int (xs (6 * c + 1)), .ref 547, .int r] μ1
  refine g_invV (M := m_LW_law) (i := 124) (M' := m_MO_costs) (b1 := b1 + 1) (b2 := b2 + 6) (As := [.int (xs (6 * c + 1))]) (a := 547) (st := [.int r]) lk_12_124 (by decide +kernel) rfl (dk_MO_costs 62) (Nat.le_of_ble_eq_true rfl) (Or.inl ⟨11, ob546 (Nat.le_trans hN.1 hn1), rfl⟩) hc1 ?_
  rintro _ μ2 ⟨r2, rfl, e2, hK2⟩ hn2
  subst e2
  show G Γ m_LW_law 63 (b1 + 1, b2 + 6) Q 1045 [.ref 31, .ref 32, .ref 547, .ref 573, .int (w ((6 * c : Nat) : Int))] [.int r2, .int r2] μ2
  exact g_icmp_eq (pc' := 1689) (off := 644) (by decide) (by decide +kernel) (fun _ => g_less (next μ2 hK2)) (fun z => absurd rfl z)
set_option maxRecDepth 100000 in
theorem lk_12_125 : LkV 12 125 m_FB_full 1 := ⟨lc_FB_full, lwG_in (List.mem_of_getElem? (i := 968) rfl) rfl, lwG_in (List.mem_of_getElem? (i := 969) rfl) rfl, lwG_in (List.mem_of_getElem? (i := 970) rfl) rfl⟩
set_option maxRecDepth 100000 in
theorem lk_12_128 : LkV 12 128 m_MO_full 1 := ⟨lc_MO_full, lwG_in (List.mem_of_getElem? (i := 1806) rfl) rfl, lwG_in (List.mem_of_getElem? (i := 1807) rfl) rfl, lwG_in (List.mem_of_getElem? (i := 1808) rfl) rfl⟩
set_option maxRecDepth 100000 in
theorem LW_case23 {Γ : XG} {c b1 b2 : Nat} {Q : Option Value → XM → Prop} {μ : XM} {xs : Nat → Int32} (hf : FM Γ) (hc : c ≤ 511) (hL : 6 * c + 6 ≤ Γ.2.2.2.2.2.2) (h3 : Γ.2.2.2.2.2.2 ≤ 3072) (hK : KS xs μ c) (next : ∀ μ2, KS xs μ2 (c + 1) → G Γ m_LW_law 63 (b1, b2) Q 1689 [.ref 31, .ref 32, .ref 547, .ref 573, .int (w ((6 * c : Nat) : Int))] [] μ2) : G Γ m_LW_law 63 (b1 + 1, b2 + 6) Q 1050 [.ref 31, .ref 32, .ref 547, .ref 573, .int (w ((6 * c : Nat) : Int))] [] μ := by
  have hN := hK.N
  refine run_ok (pc' := 1051) [(.aload_n 1, 0, 0, 0)] _ _ _ _ (by decide +kernel) ?_
  show G Γ m_LW_law 63 (b1 + 1, b2 + 6) Q 1051 [.ref 31, .ref 32, .ref 547, .ref 573, .int (w ((6 * c : Nat) : Int))] [.ref 32] μ
  refine g_arg 1 (by decide +kernel) (by decide) hL h3 hN.2 ?_
  show G Γ m_LW_law 63 (b1 + 1, b2 + 6) Q 1057 [.ref 31, .ref 32, .ref 547, .ref 573, .int (w ((6 * c : Nat) : Int))] [.int (xs (6 * c + 1)), .ref 32] μ
  refine g_invV (M := m_LW_law) (i := 125) (M' := m_FB_full) (b1 := b1 + 1) (b2 := b2 + 6) (As := [.int (xs (6 * c + 1))]) (a := 32) (st := []) lk_12_125 (by decide +kernel) rfl (dk_FB_full 62) (Nat.le_of_ble_eq_true rfl) (Or.inl ⟨10, ob32 hN.1, rfl⟩) (S_full hf (by decide) (by omega) hK (xs (6 * c + 1))) ?_
  rintro _ μ1 ⟨r, rfl, hx1, hc1⟩ hn1
  show G Γ m_LW_law 63 (b1 + 1, b2 + 6) Q 1060 [.ref 31, .ref 32, .ref 547, .ref 573, .int (w ((6 * c : Nat) : Int))] [.int r] μ1
  refine run_ok (pc' := 1061) [(.aload_n 2, 0, 0, 0)] _ _ _ _ (by decide +kernel) ?_
  show G Γ m_LW_law 63 (b1 + 1, b2 + 6) Q 1061 [.ref 31, .ref 32, .ref 547, .ref 573, .int (w ((6 * c : Nat) : Int))] [.ref 547, .int r] μ1
  refine g_arg 1 (by decide +kernel) (by decide) hL h3 hx1 ?_
  show G Γ m_LW_law 63 (b1 + 1, b2 + 6) Q 1067 [.ref 31, .ref 32, .ref 547, .ref 573, .int (w ((6 * c : Nat) : Int))] [.int (xs (6 * c + 1)), .ref 547, .int r] μ1
  refine g_invV (M := m_LW_law) (i := 128) (M' := m_MO_full) (b1 := b1 + 1) (b2 := b2 + 6) (As := [.int (xs (6 * c + 1))]) (a := 547) (st := [.int r]) lk_12_128 (by decide +kernel) rfl (dk_MO_full 62) (Nat.le_of_ble_eq_true rfl) (Or.inl ⟨11, ob546 (Nat.le_trans hN.1 hn1), rfl⟩) hc1 ?_
  rintro _ μ2 ⟨r2, rfl, e2, hK2⟩ hn2
  subst e2
  show G Γ m_LW_law 63 (b1 + 1, b2 + 6) Q 1070 [.ref 31, .ref 32, .ref 547, .ref 573, .int (w ((6 * c : Nat) : Int))] [.int r2, .int r2] μ2
  exact g_icmp_eq (pc' := 1689) (off := 619) (by decide) (by decide +kernel) (fun _ => g_less (next μ2 hK2)) (fun z => absurd rfl z)
