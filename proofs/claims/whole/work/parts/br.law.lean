/-! THE LAW: its box, its loop, its start (written by wip/tools/genbr.py) -/
set_option maxRecDepth 100000 in
theorem lk_12_51 : LkV 12 51 m_MO_box 2 := ⟨lc_MO_box, lwG_in (List.mem_of_getElem? (i := 1603) rfl) rfl, lwG_in (List.mem_of_getElem? (i := 1604) rfl) rfl, lwG_in (List.mem_of_getElem? (i := 1605) rfl) rfl⟩
set_option maxRecDepth 100000 in
theorem lk_12_52 : LkV 12 52 m_MO_thrown 0 := ⟨lc_MO_thrown, lwG_in (List.mem_of_getElem? (i := 1377) rfl) rfl, lwG_in (List.mem_of_getElem? (i := 1378) rfl) rfl, lwG_in (List.mem_of_getElem? (i := 1379) rfl) rfl⟩
set_option maxRecDepth 100000 in
theorem LW_case6 {Γ : XG} {c b1 b2 : Nat} {Q : Option Value → XM → Prop} {μ : XM} {xs : Nat → Int32} (hf : FM Γ) (ht : Γ.1.stackTraces = false) (hc : c ≤ 511) (hL : 6 * c + 6 ≤ Γ.2.2.2.2.2.2) (h3 : Γ.2.2.2.2.2.2 ≤ 3072) (hK : KS xs μ c) (next : ∀ μ2, KS xs μ2 (c + 1) → G Γ m_LW_law 63 (b1, b2) Q 1689 [.ref 31, .ref 32, .ref 547, .ref 573, .int (w ((6 * c : Nat) : Int))] [] μ2) : G Γ m_LW_law 63 (b1 + 1, b2 + 6) Q 450 [.ref 31, .ref 32, .ref 547, .ref 573, .int (w ((6 * c : Nat) : Int))] [] μ := by
  have hN := hK.N
  refine run_ok (pc' := 451) [(.aload_n 1, 0, 0, 0)] _ _ _ _ (by decide +kernel) ?_
  show G Γ m_LW_law 63 (b1 + 1, b2 + 6) Q 451 [.ref 31, .ref 32, .ref 547, .ref 573, .int (w ((6 * c : Nat) : Int))] [.ref 32] μ
  refine g_arg 1 (by decide +kernel) (by decide) hL h3 hN.2 ?_
  show G Γ m_LW_law 63 (b1 + 1, b2 + 6) Q 457 [.ref 31, .ref 32, .ref 547, .ref 573, .int (w ((6 * c : Nat) : Int))] [.int (xs (6 * c + 1)), .ref 32] μ
  refine g_arg 2 (by decide +kernel) (by decide) hL h3 hN.2 ?_
  refine run_ok (pc' := 464) [(.aload_n 3, 0, 0, 0)] _ _ _ _ (by decide +kernel) ?_
  show G Γ m_LW_law 63 (b1 + 1, b2 + 6) Q 464 [.ref 31, .ref 32, .ref 547, .ref 573, .int (w ((6 * c : Nat) : Int))] [.ref 573, .int (xs (6 * c + 2)), .int (xs (6 * c + 1)), .ref 32] μ
  refine g_invH (d := 62) (b1 := b1) (b2 := b2) (As := [.ref 32, .int (xs (6 * c + 1)), .int (xs (6 * c + 2)), .ref 573]) (st := []) (by decide +kernel) rfl (Nat.le_of_ble_eq_true rfl) (S_box hf ht (by decide) (by omega) hK _ _) ?_
  rintro _ μ1 ⟨r, rfl, hx1, hc1⟩ hn1
  show G Γ m_LW_law 63 (b1, b2) Q 467 [.ref 31, .ref 32, .ref 547, .ref 573, .int (w ((6 * c : Nat) : Int))] [.int r] μ1
  refine run_ok (pc' := 470) [(.istore 5, 0, 0, 0), (.aload_n 2, 0, 0, 0)] _ _ _ _ (by decide +kernel) ?_
  show G Γ m_LW_law 63 (b1, b2) Q 470 [.ref 31, .ref 32, .ref 547, .ref 573, .int (w ((6 * c : Nat) : Int)), .int r] [.ref 547] μ1
  refine g_arg (v3 := [.int r]) 1 (by decide +kernel) (by decide) hL h3 hx1 ?_
  show G Γ m_LW_law 63 (b1, b2) Q 476 [.ref 31, .ref 32, .ref 547, .ref 573, .int (w ((6 * c : Nat) : Int)), .int r] [.int (xs (6 * c + 1)), .ref 547] μ1
  refine g_arg (v3 := [.int r]) 2 (by decide +kernel) (by decide) hL h3 hx1 ?_
  show G Γ m_LW_law 63 (b1, b2) Q 482 [.ref 31, .ref 32, .ref 547, .ref 573, .int (w ((6 * c : Nat) : Int)), .int r] [.int (xs (6 * c + 2)), .int (xs (6 * c + 1)), .ref 547] μ1
  refine g_invV (M := m_LW_law) (i := 51) (M' := m_MO_box) (b1 := b1) (b2 := b2) (As := [.int (xs (6 * c + 1)), .int (xs (6 * c + 2))]) (a := 547) (st := []) lk_12_51 (by decide +kernel) rfl (dk_MO_box 62) (Nat.le_of_ble_eq_true rfl) (Or.inl ⟨11, ob546 (Nat.le_trans hN.1 hn1), rfl⟩) hc1 ?_
  rintro _ μ2 ⟨r2, rfl, hc2⟩ hn2
  show G Γ m_LW_law 63 (b1, b2) Q 485 [.ref 31, .ref 32, .ref 547, .ref 573, .int (w ((6 * c : Nat) : Int)), .int r] [.int r2] μ2
  refine run_ok (pc' := 488) [(.istore 6, 0, 0, 0), (.aload_n 2, 0, 0, 0)] _ _ _ _ (by decide +kernel) ?_
  show G Γ m_LW_law 63 (b1, b2) Q 488 [.ref 31, .ref 32, .ref 547, .ref 573, .int (w ((6 * c : Nat) : Int)), .int r, .int r2] [.ref 547] μ2
  refine g_invV (M := m_LW_law) (i := 52) (M' := m_MO_thrown) (b1 := b1) (b2 := b2) (As := []) (a := 547) (st := []) lk_12_52 (by decide +kernel) rfl (dk_MO_thrown 62) (Nat.le_of_ble_eq_true rfl) (Or.inl ⟨11, ob546 (Nat.le_trans hN.1 (Nat.le_trans hn1 hn2)), rfl⟩) hc2 ?_
  rintro _ μ3 ⟨r3, rfl, e3, hr, hv, hK3⟩ hn3
  subst e3
  show G Γ m_LW_law 63 (b1, b2) Q 491 [.ref 31, .ref 32, .ref 547, .ref 573, .int (w ((6 * c : Nat) : Int)), .int r3, .int r2] [.int r3] μ3
  have hN3 := hK3.N
  have fin : G Γ m_LW_law 63 (b1, b2) Q 515 [.ref 31, .ref 32, .ref 547, .ref 573, .int (w ((6 * c : Nat) : Int)), .int r3, .int r2] [] μ3 := by
    refine run_ok (pc' := 1689) [(.goto 1174, 0, 0, 0)] _ _ _ _ (by decide +kernel) ?_
    show G Γ m_LW_law 63 (b1, b2) Q 1689 [.ref 31, .ref 32, .ref 547, .ref 573, .int (w ((6 * c : Nat) : Int)), .int r3, .int r2] [] μ3
    exact g_wk (ls' := [.ref 31, .ref 32, .ref 547, .ref 573, .int (w ((6 * c : Nat) : Int))]) ⟨Or.inr rfl, Or.inr rfl, Or.inr rfl, Or.inr rfl, Or.inr rfl, trivial⟩ (next μ3 hK3)
  refine run_ok (pc' := 493) [(.iload 5, 0, 0, 0)] _ _ _ _ (by decide +kernel) ?_
  show G Γ m_LW_law 63 (b1, b2) Q 493 [.ref 31, .ref 32, .ref 547, .ref 573, .int (w ((6 * c : Nat) : Int)), .int r3, .int r2] [.int r3, .int r3] μ3
  refine g_icmp_eq (pc' := 498) (off := 5) (by decide) (by decide +kernel) (fun _ => ?_) (fun z => absurd rfl z)
  refine run_ok (pc' := 500) [(.iload 5, 0, 0, 0)] _ _ _ _ (by decide +kernel) ?_
  show G Γ m_LW_law 63 (b1, b2) Q 500 [.ref 31, .ref 32, .ref 547, .ref 573, .int (w ((6 * c : Nat) : Int)), .int r3, .int r2] [.int r3] μ3
  refine g_ifz_ne (pc' := 515) (off := 15) (by decide) (by decide +kernel) (fun _ => fin) (fun z => ?_)
  refine run_ok (pc' := 510) [(.aload_n 3, 0, 0, 0), (.iconst 0, 0, 0, 0), (.laload, 0, 0, 0), (.iload 6, 0, 0, 0), (.i2l, 0, 0, 0), (.lcmp, 0, 0, 0)] _ _ _ _ (by decide +kernel) ?_
  show _ ∧ _
  refine ⟨⟨1, ⟨rfl, by have := hN3.1; omega⟩, w_in (by omega) (by omega) (by omega)⟩, ?_⟩
  show G Γ m_LW_law 63 (b1, b2) Q 510 [.ref 31, .ref 32, .ref 547, .ref 573, .int (w ((6 * c : Nat) : Int)), .int r3, .int r2] [.int (lg_cmp (xL μ3 573 (w 0).toNatClampNeg) r2.toInt64)] μ3
  rw [show (w 0).toNatClampNeg = 0 by decide, hv z]
  exact g_ifz_eq (pc' := 515) (off := 5) (by decide) (by decide +kernel) (fun _ => fin) (fun q => absurd ((lgz2 _ _).mpr rfl) q)
theorem KS.up {xs : Nat → Int32} {μ : XM} {c : Nat} (h : KS xs μ c) : KS xs μ (c + 1) := by
  obtain ⟨h, W, n, ru, ki, s, bx, m, T, mg, A, lt, lz, lc, sel, k, pz, pv, tn, tb, hab, cl, lo, cf, fd, ik, si, bi, mi, Ti, gi, hF, hM, hT, hx⟩ := h
  exact ⟨h, W, n, ru, ki, s, bx, m, T, mg, A, lt, lz, lc, sel, k, pz, pv, tn, tb, hab, cl, lo, cf, fd, ik, si, bi, mi, Ti, gi, hF, hM, by omega, hx⟩
set_option maxRecDepth 100000 in
theorem LW_loop {Γ : XG} {Q : Option Value → XM → Prop} {xs : Nat → Int32} (hf : FM Γ) (ht : Γ.1.stackTraces = false) (h3 : Γ.2.2.2.2.2.2 ≤ 3072) (hQ : ∀ μ, Q (some (.int (w 1))) μ) : ∀ (f c : Nat) (μ : XM), c + f = 512 → KS xs μ c → G Γ m_LW_law 63 (f, 6 * f) Q 23 [.ref 31, .ref 32, .ref 547, .ref 573, .int (w ((6 * c : Nat) : Int))] [] μ := by
  intro f
  induction f with
  | zero =>
    intro c μ hl hK
    refine run_ok (pc' := 26) [(.iload 4, 0, 0, 0), (.aload_n 0, 0, 0, 0)] _ _ _ _ (by decide +kernel) ?_
    refine g_slen (by decide +kernel) ?_
    refine run_ok (pc' := 30) [(.bipush 6, 0, 0, 0), (.isub, 0, 0, 0)] _ _ _ _ (by decide +kernel) ?_
    show G Γ m_LW_law 63 (0, 6 * 0) Q 30 [.ref 31, .ref 32, .ref 547, .ref 573, .int (w ((6 * c : Nat) : Int))] [.int (w (Γ.2.2.2.2.2.2 : Int) - w 6), .int (w ((6 * c : Nat) : Int))] μ
    rw [w_sub]
    refine g_icmp_gt (pc' := 1695) (off := 1665) (by decide) (by decide +kernel) (fun _ => ?_) (fun z => ?_)
    · refine run_ok (pc' := 1696) [(.iconst 1, 0, 0, 0)] _ _ _ _ (by decide +kernel) ?_
      exact g_retz (by decide +kernel) rfl (Or.inr rfl) (hQ μ)
    · rw [w_lt (by omega) (by omega) (by omega) (by omega)] at z
      omega
  | succ f ih =>
    intro c μ hl hK
    refine run_ok (pc' := 26) [(.iload 4, 0, 0, 0), (.aload_n 0, 0, 0, 0)] _ _ _ _ (by decide +kernel) ?_
    refine g_slen (by decide +kernel) ?_
    refine run_ok (pc' := 30) [(.bipush 6, 0, 0, 0), (.isub, 0, 0, 0)] _ _ _ _ (by decide +kernel) ?_
    show G Γ m_LW_law 63 (f + 1, 6 * f + 6) Q 30 [.ref 31, .ref 32, .ref 547, .ref 573, .int (w ((6 * c : Nat) : Int))] [.int (w (Γ.2.2.2.2.2.2 : Int) - w 6), .int (w ((6 * c : Nat) : Int))] μ
    rw [w_sub]
    refine g_icmp_gt (pc' := 1695) (off := 1665) (by decide) (by decide +kernel) (fun _ => ?_) (fun z => ?_)
    · refine run_ok (pc' := 1696) [(.iconst 1, 0, 0, 0)] _ _ _ _ (by decide +kernel) ?_
      exact g_retz (by decide +kernel) rfl (Or.inr rfl) (hQ μ)
    · rw [w_lt (by omega) (by omega) (by omega) (by omega)] at z
      have hL : 6 * c + 6 ≤ Γ.2.2.2.2.2.2 := by omega
      have hc : c ≤ 511 := by omega
      have next : ∀ μ2, KS xs μ2 (c + 1) → G Γ m_LW_law 63 (f, 6 * f) Q 1689 [.ref 31, .ref 32, .ref 547, .ref 573, .int (w ((6 * c : Nat) : Int))] [] μ2 := fun μ2 hK2 => by
        refine run_ok (pc' := 23) [(.iinc 4 6, 0, 0, 0), (.goto (-1669), 0, 0, 0)] _ _ _ _ (by decide +kernel) ?_
        show G Γ m_LW_law 63 (f, 6 * f) Q 23 [.ref 31, .ref 32, .ref 547, .ref 573, .int (w ((6 * c : Nat) : Int) + w 6)] [] μ2
        have e : w ((6 * c : Nat) : Int) + w 6 = w ((6 * (c + 1) : Nat) : Int) := by rw [w_add]; congr 1
        rw [e]
        exact ih (c + 1) μ2 (by omega) hK2
      refine run_ok (pc' := 36) [(.aload_n 0, 0, 0, 0), (.iload 4, 0, 0, 0)] _ _ _ _ (by decide +kernel) ?_
      show G Γ m_LW_law 63 (f + 1, 6 * f + 6) Q 36 [.ref 31, .ref 32, .ref 547, .ref 573, .int (w ((6 * c : Nat) : Int))] [.int (w ((6 * c : Nat) : Int)), .ref 31] μ
      refine g_sld (by decide +kernel) (w_in (by omega) (by omega) (by omega)) ?_
      refine run_ok (pc' := 40) [(.bipush 63, 0, 0, 0), (.iand, 0, 0, 0)] _ _ _ _ (by decide +kernel) ?_
      refine g_sw (df := 1649) (lo := 0) (n := 46) (offs := #[200, 273, 298, 323, 348, 373, 410, 478, 503, 528, 593, 618, 643, 668, 693, 762, 775, 812, 861, 898, 923, 960, 985, 1010, 1035, 1072, 1109, 1122, 1147, 1184, 1209, 1274, 1311, 1336, 1361, 1398, 1423, 1448, 1461, 1486, 1511, 1536, 1561, 1598, 1611, 1624]) (len := 200) (by decide +kernel) (by decide) (pd := 1689) (by decide) (fun _ => g_less (next μ hK.up)) (fun k hk _ => ?_)
      match k, hk with
      | 0, _ => exact ⟨240, 200, rfl, by decide, LW_case0 hf hc hL h3 hK next⟩
      | 1, _ => exact ⟨313, 273, rfl, by decide, LW_case1 hf hc hL h3 hK next⟩
      | 2, _ => exact ⟨338, 298, rfl, by decide, LW_case2 hf hc hL h3 hK next⟩
      | 3, _ => exact ⟨363, 323, rfl, by decide, LW_case3 hf hc hL h3 hK next⟩
      | 4, _ => exact ⟨388, 348, rfl, by decide, LW_case4 hf hc hL h3 hK next⟩
      | 5, _ => exact ⟨413, 373, rfl, by decide, LW_case5 hf hc hL h3 hK next⟩
      | 6, _ => exact ⟨450, 410, rfl, by decide, LW_case6 hf ht hc hL h3 hK next⟩
      | 7, _ => exact ⟨518, 478, rfl, by decide, LW_case7 hf hc hL h3 hK next⟩
      | 8, _ => exact ⟨543, 503, rfl, by decide, LW_case8 hf hc hL h3 hK next⟩
      | 9, _ => exact ⟨568, 528, rfl, by decide, LW_case9 hf hc hL h3 hK next⟩
      | 10, _ => exact ⟨633, 593, rfl, by decide, LW_case10 hf hc hL h3 hK next⟩
      | 11, _ => exact ⟨658, 618, rfl, by decide, LW_case11 hf hc hL h3 hK next⟩
      | 12, _ => exact ⟨683, 643, rfl, by decide, LW_case12 hf hc hL h3 hK next⟩
      | 13, _ => exact ⟨708, 668, rfl, by decide, LW_case13 hf hc hL h3 hK next⟩
      | 14, _ => exact ⟨733, 693, rfl, by decide, LW_case14 hf hc hL h3 hK next⟩
      | 15, _ => exact ⟨802, 762, rfl, by decide, LW_case15 hf hc hL h3 hK next⟩
      | 16, _ => exact ⟨815, 775, rfl, by decide, LW_case16 hf hc hL h3 hK next⟩
      | 17, _ => exact ⟨852, 812, rfl, by decide, LW_case17 hf hc hL h3 hK next⟩
      | 18, _ => exact ⟨901, 861, rfl, by decide, LW_case18 hf hc hL h3 hK next⟩
      | 19, _ => exact ⟨938, 898, rfl, by decide, LW_case19 hf hc hL h3 hK next⟩
      | 20, _ => exact ⟨963, 923, rfl, by decide, LW_case20 hf hc hL h3 hK next⟩
      | 21, _ => exact ⟨1000, 960, rfl, by decide, LW_case21 hf hc hL h3 hK next⟩
      | 22, _ => exact ⟨1025, 985, rfl, by decide, LW_case22 hf hc hL h3 hK next⟩
      | 23, _ => exact ⟨1050, 1010, rfl, by decide, LW_case23 hf hc hL h3 hK next⟩
      | 24, _ => exact ⟨1075, 1035, rfl, by decide, LW_case24 hf hc hL h3 hK next⟩
      | 25, _ => exact ⟨1112, 1072, rfl, by decide, LW_case25 hf hc hL h3 hK next⟩
      | 26, _ => exact ⟨1149, 1109, rfl, by decide, LW_case26 hf hc hL h3 hK next⟩
      | 27, _ => exact ⟨1162, 1122, rfl, by decide, LW_case27 hf hc hL h3 hK next⟩
      | 28, _ => exact ⟨1187, 1147, rfl, by decide, LW_case28 hf hc hL h3 hK next⟩
      | 29, _ => exact ⟨1224, 1184, rfl, by decide, LW_case29 hf hc hL h3 hK next⟩
      | 30, _ => exact ⟨1249, 1209, rfl, by decide, LW_case30 hf hc hL h3 hK next⟩
      | 31, _ => exact ⟨1314, 1274, rfl, by decide, LW_case31 hf hc hL h3 hK next⟩
      | 32, _ => exact ⟨1351, 1311, rfl, by decide, LW_case32 hf hc hL h3 hK next⟩
      | 33, _ => exact ⟨1376, 1336, rfl, by decide, LW_case33 hf hc hL h3 hK next⟩
      | 34, _ => exact ⟨1401, 1361, rfl, by decide, LW_case34 hf hc hL h3 hK next⟩
      | 35, _ => exact ⟨1438, 1398, rfl, by decide, LW_case35 hf hc hL h3 hK next⟩
      | 36, _ => exact ⟨1463, 1423, rfl, by decide, LW_case36 hf hc hL h3 hK next⟩
      | 37, _ => exact ⟨1488, 1448, rfl, by decide, LW_case37 hf hc hL h3 hK next⟩
      | 38, _ => exact ⟨1501, 1461, rfl, by decide, LW_case38 hf hc hL h3 hK next⟩
      | 39, _ => exact ⟨1526, 1486, rfl, by decide, LW_case39 hf hc hL h3 hK next⟩
      | 40, _ => exact ⟨1551, 1511, rfl, by decide, LW_case40 hf hc hL h3 hK next⟩
      | 41, _ => exact ⟨1576, 1536, rfl, by decide, LW_case41 hf hc hL h3 hK next⟩
      | 42, _ => exact ⟨1601, 1561, rfl, by decide, LW_case42 hf hc hL h3 hK next⟩
      | 43, _ => exact ⟨1638, 1598, rfl, by decide, LW_case43 hf hc hL h3 hK next⟩
      | 44, _ => exact ⟨1651, 1611, rfl, by decide, LW_case44 hf hc hL h3 hK next⟩
      | 45, _ => exact ⟨1664, 1624, rfl, by decide, LW_case45 hf hc hL h3 hK next⟩
      | k + 46, hk => exact absurd hk (by omega)
