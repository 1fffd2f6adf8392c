/-! THE LAW'S CASES, second half (written by wip/tools/genbo.py) -/
set_option maxRecDepth 100000 in
theorem lk_12_129 : LkV 12 129 m_FB_keep 2 := ⟨lc_FB_keep, lwG_in (List.mem_of_getElem? (i := 972) rfl) rfl, lwG_in (List.mem_of_getElem? (i := 973) rfl) rfl, lwG_in (List.mem_of_getElem? (i := 974) rfl) rfl⟩
set_option maxRecDepth 100000 in
theorem lk_12_132 : LkV 12 132 m_MO_keep 2 := ⟨lc_MO_keep, lwG_in (List.mem_of_getElem? (i := 1810) rfl) rfl, lwG_in (List.mem_of_getElem? (i := 1811) rfl) rfl, lwG_in (List.mem_of_getElem? (i := 1812) rfl) rfl⟩
set_option maxRecDepth 100000 in
theorem LW_case24 {Γ : XG} {c b1 b2 : Nat} {Q : Option Value → XM → Prop} {μ : XM} {xs : Nat → Int32} (hf : FM Γ) (hc : c ≤ 511) (hL : 6 * c + 6 ≤ Γ.2.2.2.2.2.2) (h3 : Γ.2.2.2.2.2.2 ≤ 3072) (hK : KS xs μ c) (next : ∀ μ2, KS xs μ2 (c + 1) → G Γ m_LW_law 63 (b1, b2) Q 1689 [.ref 31, .ref 32, .ref 547, .ref 573, .int (w ((6 * c : Nat) : Int))] [] μ2) : G Γ m_LW_law 63 (b1 + 1, b2 + 6) Q 1075 [.ref 31, .ref 32, .ref 547, .ref 573, .int (w ((6 * c : Nat) : Int))] [] μ := by
  have hN := hK.N
  refine run_ok (pc' := 1076) [(.aload_n 1, 0, 0, 0)] _ _ _ _ (by decide +kernel) ?_
  show G Γ m_LW_law 63 (b1 + 1, b2 + 6) Q 1076 [.ref 31, .ref 32, .ref 547, .ref 573, .int (w ((6 * c : Nat) : Int))] [.ref 32] μ
  refine g_arg 1 (by decide +kernel) (by decide) hL h3 hN.2 ?_
  show G Γ m_LW_law 63 (b1 + 1, b2 + 6) Q 1082 [.ref 31, .ref 32, .ref 547, .ref 573, .int (w ((6 * c : Nat) : Int))] [.int (xs (6 * c + 1)), .ref 32] μ
  refine g_arg 2 (by decide +kernel) (by decide) hL h3 hN.2 ?_
  show G Γ m_LW_law 63 (b1 + 1, b2 + 6) Q 1088 [.ref 31, .ref 32, .ref 547, .ref 573, .int (w ((6 * c : Nat) : Int))] [.int (xs (6 * c + 2)), .int (xs (6 * c + 1)), .ref 32] μ
  refine g_invV (M := m_LW_law) (i := 129) (M' := m_FB_keep) (b1 := b1 + 1) (b2 := b2 + 6) (As := [.int (xs (6 * c + 1)), .int (xs (6 * c + 2))]) (a := 32) (st := []) lk_12_129 (by decide +kernel) rfl (dk_FB_keep 62) (Nat.le_of_ble_eq_true rfl) (Or.inl ⟨10, ob32 hN.1, rfl⟩) (S_keep hf (by decide) (by omega) hK (xs (6 * c + 1)) (xs (6 * c + 2))) ?_
  rintro _ μ1 ⟨r, rfl, hx1, hc1⟩ hn1
  show G Γ m_LW_law 63 (b1 + 1, b2 + 6) Q 1091 [.ref 31, .ref 32, .ref 547, .ref 573, .int (w ((6 * c : Nat) : Int))] [.int r] μ1
  refine run_ok (pc' := 1092) [(.aload_n 2, 0, 0, 0)] _ _ _ _ (by decide +kernel) ?_
  show G Γ m_LW_law 63 (b1 + 1, b2 + 6) Q 1092 [.ref 31, .ref 32, .ref 547, .ref 573, .int (w ((6 * c : Nat) : Int))] [.ref 547, .int r] μ1
  refine g_arg 1 (by decide +kernel) (by decide) hL h3 hx1 ?_
  show G Γ m_LW_law 63 (b1 + 1, b2 + 6) Q 1098 [.ref 31, .ref 32, .ref 547, .ref 573, .int (w ((6 * c : Nat) : Int))] [.int (xs (6 * c + 1)), .ref 547, .int r] μ1
  refine g_arg 2 (by decide +kernel) (by decide) hL h3 hx1 ?_
  show G Γ m_LW_law 63 (b1 + 1, b2 + 6) Q 1104 [.ref 31, .ref 32, .ref 547, .ref 573, .int (w ((6 * c : Nat) : Int))] [.int (xs (6 * c + 2)), .int (xs (6 * c + 1)), .ref 547, .int r] μ1
  refine g_invV (M := m_LW_law) (i := 132) (M' := m_MO_keep) (b1 := b1 + 1) (b2 := b2 + 6) (As := [.int (xs (6 * c + 1)), .int (xs (6 * c + 2))]) (a := 547) (st := [.int r]) lk_12_132 (by decide +kernel) rfl (dk_MO_keep 62) (Nat.le_of_ble_eq_true rfl) (Or.inl ⟨11, ob546 (Nat.le_trans hN.1 hn1), rfl⟩) hc1 ?_
  rintro _ μ2 ⟨r2, rfl, e2, hK2⟩ hn2
  subst e2
  show G Γ m_LW_law 63 (b1 + 1, b2 + 6) Q 1107 [.ref 31, .ref 32, .ref 547, .ref 573, .int (w ((6 * c : Nat) : Int))] [.int r2, .int r2] μ2
  exact g_icmp_eq (pc' := 1689) (off := 582) (by decide) (by decide +kernel) (fun _ => g_less (next μ2 hK2)) (fun z => absurd rfl z)
set_option maxRecDepth 100000 in
theorem lk_12_133 : LkV 12 133 m_FB_spans 2 := ⟨lc_FB_spans, lwG_in (List.mem_of_getElem? (i := 976) rfl) rfl, lwG_in (List.mem_of_getElem? (i := 977) rfl) rfl, lwG_in (List.mem_of_getElem? (i := 978) rfl) rfl⟩
set_option maxRecDepth 100000 in
theorem lk_12_136 : LkV 12 136 m_MO_spans 2 := ⟨lc_MO_spans, lwG_in (List.mem_of_getElem? (i := 1814) rfl) rfl, lwG_in (List.mem_of_getElem? (i := 1815) rfl) rfl, lwG_in (List.mem_of_getElem? (i := 1816) rfl) rfl⟩
set_option maxRecDepth 100000 in
theorem LW_case25 {Γ : XG} {c b1 b2 : Nat} {Q : Option Value → XM → Prop} {μ : XM} {xs : Nat → Int32} (hf : FM Γ) (hc : c ≤ 511) (hL : 6 * c + 6 ≤ Γ.2.2.2.2.2.2) (h3 : Γ.2.2.2.2.2.2 ≤ 3072) (hK : KS xs μ c) (next : ∀ μ2, KS xs μ2 (c + 1) → G Γ m_LW_law 63 (b1, b2) Q 1689 [.ref 31, .ref 32, .ref 547, .ref 573, .int (w ((6 * c : Nat) : Int))] [] μ2) : G Γ m_LW_law 63 (b1 + 1, b2 + 6) Q 1112 [.ref 31, .ref 32, .ref 547, .ref 573, .int (w ((6 * c : Nat) : Int))] [] μ := by
  have hN := hK.N
  refine run_ok (pc' := 1113) [(.aload_n 1, 0, 0, 0)] _ _ _ _ (by decide +kernel) ?_
  show G Γ m_LW_law 63 (b1 + 1, b2 + 6) Q 1113 [.ref 31, .ref 32, .ref 547, .ref 573, .int (w ((6 * c : Nat) : Int))] [.ref 32] μ
  refine g_arg 1 (by decide +kernel) (by decide) hL h3 hN.2 ?_
  show G Γ m_LW_law 63 (b1 + 1, b2 + 6) Q 1119 [.ref 31, .ref 32, .ref 547, .ref 573, .int (w ((6 * c : Nat) : Int))] [.int (xs (6 * c + 1)), .ref 32] μ
  refine g_arg 2 (by decide +kernel) (by decide) hL h3 hN.2 ?_
  show G Γ m_LW_law 63 (b1 + 1, b2 + 6) Q 1125 [.ref 31, .ref 32, .ref 547, .ref 573, .int (w ((6 * c : Nat) : Int))] [.int (xs (6 * c + 2)), .int (xs (6 * c + 1)), .ref 32] μ
  refine g_invV (M := m_LW_law) (i := 133) (M' := m_FB_spans) (b1 := b1 + 1) (b2 := b2 + 6) (As := [.int (xs (6 * c + 1)), .int (xs (6 * c + 2))]) (a := 32) (st := []) lk_12_133 (by decide +kernel) rfl (dk_FB_spans 62) (Nat.le_of_ble_eq_true rfl) (Or.inl ⟨10, ob32 hN.1, rfl⟩) (S_spans hf (by decide) (by omega) hK (xs (6 * c + 1)) (xs (6 * c + 2))) ?_
  rintro _ μ1 ⟨r, rfl, hx1, hc1⟩ hn1
  show G Γ m_LW_law 63 (b1 + 1, b2 + 6) Q 1128 [.ref 31, .ref 32, .ref 547, .ref 573, .int (w ((6 * c : Nat) : Int))] [.int r] μ1
  refine run_ok (pc' := 1129) [(.aload_n 2, 0, 0, 0)] _ _ _ _ (by decide +kernel) ?_
  show G Γ m_LW_law 63 (b1 + 1, b2 + 6) Q 1129 [.ref 31, .ref 32, .ref 547, .ref 573, .int (w ((6 * c : Nat) : Int))] [.ref 547, .int r] μ1
  refine g_arg 1 (by decide +kernel) (by decide) hL h3 hx1 ?_
  show G Γ m_LW_law 63 (b1 + 1, b2 + 6) Q 1135 [.ref 31, .ref 32, .ref 547, .ref 573, .int (w ((6 * c : Nat) : Int))] [.int (xs (6 * c + 1)), .ref 547, .int r] μ1
  refine g_arg 2 (by decide +kernel) (by decide) hL h3 hx1 ?_
  show G Γ m_LW_law 63 (b1 + 1, b2 + 6) Q 1141 [.ref 31, .ref 32, .ref 547, .ref 573, .int (w ((6 * c : Nat) : Int))] [.int (xs (6 * c + 2)), .int (xs (6 * c + 1)), .ref 547, .int r] μ1
  refine g_invV (M := m_LW_law) (i := 136) (M' := m_MO_spans) (b1 := b1 + 1) (b2 := b2 + 6) (As := [.int (xs (6 * c + 1)), .int (xs (6 * c + 2))]) (a := 547) (st := [.int r]) lk_12_136 (by decide +kernel) rfl (dk_MO_spans 62) (Nat.le_of_ble_eq_true rfl) (Or.inl ⟨11, ob546 (Nat.le_trans hN.1 hn1), rfl⟩) hc1 ?_
  rintro _ μ2 ⟨r2, rfl, e2, hK2⟩ hn2
  subst e2
  show G Γ m_LW_law 63 (b1 + 1, b2 + 6) Q 1144 [.ref 31, .ref 32, .ref 547, .ref 573, .int (w ((6 * c : Nat) : Int))] [.int r2, .int r2] μ2
  exact g_icmp_eq (pc' := 1689) (off := 545) (by decide) (by decide +kernel) (fun _ => g_less (next μ2 hK2)) (fun z => absurd rfl z)
set_option maxRecDepth 100000 in
theorem lk_12_137 : LkV 12 137 m_FB_nameless 0 := ⟨lc_FB_nameless, lwG_in (List.mem_of_getElem? (i := 988) rfl) rfl, lwG_in (List.mem_of_getElem? (i := 989) rfl) rfl, lwG_in (List.mem_of_getElem? (i := 990) rfl) rfl⟩
set_option maxRecDepth 100000 in
theorem lk_12_140 : LkV 12 140 m_MO_nameless 0 := ⟨lc_MO_nameless, lwG_in (List.mem_of_getElem? (i := 1826) rfl) rfl, lwG_in (List.mem_of_getElem? (i := 1827) rfl) rfl, lwG_in (List.mem_of_getElem? (i := 1828) rfl) rfl⟩
set_option maxRecDepth 100000 in
theorem LW_case26 {Γ : XG} {c b1 b2 : Nat} {Q : Option Value → XM → Prop} {μ : XM} {xs : Nat → Int32} (hf : FM Γ) (hc : c ≤ 511) (hL : 6 * c + 6 ≤ Γ.2.2.2.2.2.2) (h3 : Γ.2.2.2.2.2.2 ≤ 3072) (hK : KS xs μ c) (next : ∀ μ2, KS xs μ2 (c + 1) → G Γ m_LW_law 63 (b1, b2) Q 1689 [.ref 31, .ref 32, .ref 547, .ref 573, .int (w ((6 * c : Nat) : Int))] [] μ2) : G Γ m_LW_law 63 (b1 + 1, b2 + 6) Q 1149 [.ref 31, .ref 32, .ref 547, .ref 573, .int (w ((6 * c : Nat) : Int))] [] μ := by
  have hN := hK.N
  refine run_ok (pc' := 1150) [(.aload_n 1, 0, 0, 0)] _ _ _ _ (by decide +kernel) ?_
  show G Γ m_LW_law 63 (b1 + 1, b2 + 6) Q 1150 [.ref 31, .ref 32, .ref 547, .ref 573, .int (w ((6 * c : Nat) : Int))] [.ref 32] μ
  refine g_invV (M := m_LW_law) (i := 137) (M' := m_FB_nameless) (b1 := b1 + 1) (b2 := b2 + 6) (As := []) (a := 32) (st := []) lk_12_137 (by decide +kernel) rfl (dk_FB_nameless 62) (Nat.le_of_ble_eq_true rfl) (Or.inl ⟨10, ob32 hN.1, rfl⟩) (S_nameless hf (by decide) (by omega) hK ) ?_
  rintro _ μ1 ⟨r, rfl, hx1, hc1⟩ hn1
  show G Γ m_LW_law 63 (b1 + 1, b2 + 6) Q 1153 [.ref 31, .ref 32, .ref 547, .ref 573, .int (w ((6 * c : Nat) : Int))] [.int r] μ1
  refine run_ok (pc' := 1154) [(.aload_n 2, 0, 0, 0)] _ _ _ _ (by decide +kernel) ?_
  show G Γ m_LW_law 63 (b1 + 1, b2 + 6) Q 1154 [.ref 31, .ref 32, .ref 547, .ref 573, .int (w ((6 * c : Nat) : Int))] [.ref 547, .int r] μ1
  refine g_invV (M := m_LW_law) (i := 140) (M' := m_MO_nameless) (b1 := b1 + 1) (b2 := b2 + 6) (As := []) (a := 547) (st := [.int r]) lk_12_140 (by decide +kernel) rfl (dk_MO_nameless 62) (Nat.le_of_ble_eq_true rfl) (Or.inl ⟨11, ob546 (Nat.le_trans hN.1 hn1), rfl⟩) hc1 ?_
  rintro _ μ2 ⟨r2, rfl, e2, hK2⟩ hn2
  subst e2
  show G Γ m_LW_law 63 (b1 + 1, b2 + 6) Q 1157 [.ref 31, .ref 32, .ref 547, .ref 573, .int (w ((6 * c : Nat) : Int))] [.int r2, .int r2] μ2
  exact g_icmp_eq (pc' := 1689) (off := 532) (by decide) (by decide +kernel) (fun _ => g_less (next μ2 hK2)) (fun z => absurd rfl z)
set_option maxRecDepth 100000 in
theorem lk_12_141 : LkV 12 141 m_FB_doubles 1 := ⟨lc_FB_doubles, lwG_in (List.mem_of_getElem? (i := 992) rfl) rfl, lwG_in (List.mem_of_getElem? (i := 993) rfl) rfl, lwG_in (List.mem_of_getElem? (i := 994) rfl) rfl⟩
set_option maxRecDepth 100000 in
theorem lk_12_144 : LkV 12 144 m_MO_doubles 1 := ⟨lc_MO_doubles, lwG_in (List.mem_of_getElem? (i := 1830) rfl) rfl, lwG_in (List.mem_of_getElem? (i := 1831) rfl) rfl, lwG_in (List.mem_of_getElem? (i := 1832) rfl) rfl⟩
set_option maxRecDepth 100000 in
theorem LW_case27 {Γ : XG} {c b1 b2 : Nat} {Q : Option Value → XM → Prop} {μ : XM} {xs : Nat → Int32} (hf : FM Γ) (hc : c ≤ 511) (hL : 6 * c + 6 ≤ Γ.2.2.2.2.2.2) (h3 : Γ.2.2.2.2.2.2 ≤ 3072) (hK : KS xs μ c) (next : ∀ μ2, KS xs μ2 (c + 1) → G Γ m_LW_law 63 (b1, b2) Q 1689 [.ref 31, .ref 32, .ref 547, .ref 573, .int (w ((6 * c : Nat) : Int))] [] μ2) : G Γ m_LW_law 63 (b1 + 1, b2 + 6) Q 1162 [.ref 31, .ref 32, .ref 547, .ref 573, .int (w ((6 * c : Nat) : Int))] [] μ := by
  have hN := hK.N
  refine run_ok (pc' := 1163) [(.aload_n 1, 0, 0, 0)] _ _ _ _ (by decide +kernel) ?_
  show G Γ m_LW_law 63 (b1 + 1, b2 + 6) Q 1163 [.ref 31, .ref 32, .ref 547, .ref 573, .int (w ((6 * c : Nat) : Int))] [.ref 32] μ
  refine g_arg 1 (by decide +kernel) (by decide) hL h3 hN.2 ?_
  show G Γ m_LW_law 63 (b1 + 1, b2 + 6) Q 1169 [.ref 31, .ref 32, .ref 547, .ref 573, .int (w ((6 * c : Nat) : Int))] [.int (xs (6 * c + 1)), .ref 32] μ
  refine g_invV (M := m_LW_law) (i := 141) (M' := m_FB_doubles) (b1 := b1 + 1) (b2 := b2 + 6) (As := [.int (xs (6 * c + 1))]) (a := 32) (st := []) lk_12_141 (by decide +kernel) rfl (dk_FB_doubles 62) (Nat.le_of_ble_eq_true rfl) (Or.inl ⟨10, ob32 hN.1, rfl⟩) (S_doubles hf (by decide) (by omega) hK (xs (6 * c + 1))) ?_
  rintro _ μ1 ⟨r, rfl, hx1, hc1⟩ hn1
  show G Γ m_LW_law 63 (b1 + 1, b2 + 6) Q 1172 [.ref 31, .ref 32, .ref 547, .ref 573, .int (w ((6 * c : Nat) : Int))] [.int r] μ1
  refine run_ok (pc' := 1173) [(.aload_n 2, 0, 0, 0)] _ _ _ _ (by decide +kernel) ?_
  show G Γ m_LW_law 63 (b1 + 1, b2 + 6) Q 1173 [.ref 31, .ref 32, .ref 547, .ref 573, .int (w ((6 * c : Nat) : Int))] [.ref 547, .int r] μ1
  refine g_arg 1 (by decide +kernel) (by decide) hL h3 hx1 ?_
  show G Γ m_LW_law 63 (b1 + 1, b2 + 6) Q 1179 [.ref 31, .ref 32, .ref 547, .ref 573, .int (w ((6 * c : Nat) : Int))] [.int (xs (6 * c + 1)), .ref 547, .int r] μ1
  refine g_invV (M := m_LW_law) (i := 144) (M' := m_MO_doubles) (b1 := b1 + 1) (b2 := b2 + 6) (As := [.int (xs (6 * c + 1))]) (a := 547) (st := [.int r]) lk_12_144 (by decide +kernel) rfl (dk_MO_doubles 62) (Nat.le_of_ble_eq_true rfl) (Or.inl ⟨11, ob546 (Nat.le_trans hN.1 hn1), rfl⟩) hc1 ?_
  rintro _ μ2 ⟨r2, rfl, e2, hK2⟩ hn2
  subst e2
  show G Γ m_LW_law 63 (b1 + 1, b2 + 6) Q 1182 [.ref 31, .ref 32, .ref 547, .ref 573, .int (w ((6 * c : Nat) : Int))] [.int r2, .int r2] μ2
  exact g_icmp_eq (pc' := 1689) (off := 507) (by decide) (by decide +kernel) (fun _ => g_less (next μ2 hK2)) (fun z => absurd rfl z)
set_option maxRecDepth 100000 in
theorem lk_12_145 : LkV 12 145 m_FB_peek 2 := ⟨lc_FB_peek, lwG_in (List.mem_of_getElem? (i := 1004) rfl) rfl, lwG_in (List.mem_of_getElem? (i := 1005) rfl) rfl, lwG_in (List.mem_of_getElem? (i := 1006) rfl) rfl⟩
set_option maxRecDepth 100000 in
theorem lk_12_148 : LkV 12 148 m_MO_peek 2 := ⟨lc_MO_peek, lwG_in (List.mem_of_getElem? (i := 1834) rfl) rfl, lwG_in (List.mem_of_getElem? (i := 1835) rfl) rfl, lwG_in (List.mem_of_getElem? (i := 1836) rfl) rfl⟩
set_option maxRecDepth 100000 in
theorem LW_case28 {Γ : XG} {c b1 b2 : Nat} {Q : Option Value → XM → Prop} {μ : XM} {xs : Nat → Int32} (hf : FM Γ) (hc : c ≤ 511) (hL : 6 * c + 6 ≤ Γ.2.2.2.2.2.2) (h3 : Γ.2.2.2.2.2.2 ≤ 3072) (hK : KS xs μ c) (next : ∀ μ2, KS xs μ2 (c + 1) → G Γ m_LW_law 63 (b1, b2) Q 1689 [.ref 31, .ref 32, .ref 547, .ref 573, .int (w ((6 * c : Nat) : Int))] [] μ2) : G Γ m_LW_law 63 (b1 + 1, b2 + 6) Q 1187 [.ref 31, .ref 32, .ref 547, .ref 573, .int (w ((6 * c : Nat) : Int))] [] μ := by
  have hN := hK.N
  refine run_ok (pc' := 1188) [(.aload_n 1, 0, 0, 0)] _ _ _ _ (by decide +kernel) ?_
  show G Γ m_LW_law 63 (b1 + 1, b2 + 6) Q 1188 [.ref 31, .ref 32, .ref 547, .ref 573, .int (w ((6 * c : Nat) : Int))] [.ref 32] μ
  refine g_arg 1 (by decide +kernel) (by decide) hL h3 hN.2 ?_
  show G Γ m_LW_law 63 (b1 + 1, b2 + 6) Q 1194 [.ref 31, .ref 32, .ref 547, .ref 573, .int (w ((6 * c : Nat) : Int))] [.int (xs (6 * c + 1)), .ref 32] μ
  refine g_arg 2 (by decide +kernel) (by decide) hL h3 hN.2 ?_
  show G Γ m_LW_law 63 (b1 + 1, b2 + 6) Q 1200 [.ref 31, .ref 32, .ref 547, .ref 573, .int (w ((6 * c : Nat) : Int))] [.int (xs (6 * c + 2)), .int (xs (6 * c + 1)), .ref 32] μ
  refine g_invV (M := m_LW_law) (i := 145) (M' := m_FB_peek) (b1 := b1 + 1) (b2 := b2 + 6) (As := [.int (xs (6 * c + 1)), .int (xs (6 * c + 2))]) (a := 32) (st := []) lk_12_145 (by decide +kernel) rfl (dk_FB_peek 62) (Nat.le_of_ble_eq_true rfl) (Or.inl ⟨10, ob32 hN.1, rfl⟩) (S_peek hf (by decide) (by omega) hK (xs (6 * c + 1)) (xs (6 * c + 2))) ?_
  rintro _ μ1 ⟨r, rfl, hx1, hc1⟩ hn1
  show G Γ m_LW_law 63 (b1 + 1, b2 + 6) Q 1203 [.ref 31, .ref 32, .ref 547, .ref 573, .int (w ((6 * c : Nat) : Int))] [.int r] μ1
  refine run_ok (pc' := 1204) [(.aload_n 2, 0, 0, 0)] _ _ _ _ (by decide +kernel) ?_
  show G Γ m_LW_law 63 (b1 + 1, b2 + 6) Q 1204 [.ref 31, .ref 32, .ref 547, .ref 573, .int (w ((6 * c : Nat) : Int))] [.ref 547, .int r] μ1
  refine g_arg 1 (by decide +kernel) (by decide) hL h3 hx1 ?_
  show G Γ m_LW_law 63 (b1 + 1, b2 + 6) Q 1210 [.ref 31, .ref 32, .ref 547, .ref 573, .int (w ((6 * c : Nat) : Int))] [.int (xs (6 * c + 1)), .ref 547, .int r] μ1
  refine g_arg 2 (by decide +kernel) (by decide) hL h3 hx1 ?_
  show G Γ m_LW_law 63 (b1 + 1, b2 + 6) Q 1216 [.ref 31, .ref 32, .ref 547, .ref 573, .int (w ((6 * c : Nat) : Int))] [.int (xs (6 * c + 2)), .int (xs (6 * c + 1)), .ref 547, .int r] μ1
  refine g_invV (M := m_LW_law) (i := 148) (M' := m_MO_peek) (b1 := b1 + 1) (b2 := b2 + 6) (As := [.int (xs (6 * c + 1)), .int (xs (6 * c + 2))]) (a := 547) (st := [.int r]) lk_12_148 (by decide +kernel) rfl (dk_MO_peek 62) (Nat.le_of_ble_eq_true rfl) (Or.inl ⟨11, ob546 (Nat.le_trans hN.1 hn1), rfl⟩) hc1 ?_
  rintro _ μ2 ⟨r2, rfl, e2, hK2⟩ hn2
  subst e2
  show G Γ m_LW_law 63 (b1 + 1, b2 + 6) Q 1219 [.ref 31, .ref 32, .ref 547, .ref 573, .int (w ((6 * c : Nat) : Int))] [.int r2, .int r2] μ2
  exact g_icmp_eq (pc' := 1689) (off := 470) (by decide) (by decide +kernel) (fun _ => g_less (next μ2 hK2)) (fun z => absurd rfl z)
set_option maxRecDepth 100000 in
theorem lk_12_149 : LkV 12 149 m_FB_what 1 := ⟨lc_FB_what, lwG_in (List.mem_of_getElem? (i := 1014) rfl) rfl, lwG_in (List.mem_of_getElem? (i := 1015) rfl) rfl, lwG_in (List.mem_of_getElem? (i := 1016) rfl) rfl⟩
set_option maxRecDepth 100000 in
theorem lk_12_152 : LkV 12 152 m_MO_what 1 := ⟨lc_MO_what, lwG_in (List.mem_of_getElem? (i := 1838) rfl) rfl, lwG_in (List.mem_of_getElem? (i := 1839) rfl) rfl, lwG_in (List.mem_of_getElem? (i := 1840) rfl) rfl⟩
set_option maxRecDepth 100000 in
theorem LW_case29 {Γ : XG} {c b1 b2 : Nat} {Q : Option Value → XM → Prop} {μ : XM} {xs : Nat → Int32} (hf : FM Γ) (hc : c ≤ 511) (hL : 6 * c + 6 ≤ Γ.2.2.2.2.2.2) (h3 : Γ.2.2.2.2.2.2 ≤ 3072) (hK : KS xs μ c) (next : ∀ μ2, KS xs μ2 (c + 1) → G Γ m_LW_law 63 (b1, b2) Q 1689 [.ref 31, .ref 32, .ref 547, .ref 573, .int (w ((6 * c : Nat) : Int))] [] μ2) : G Γ m_LW_law 63 (b1 + 1, b2 + 6) Q 1224 [.ref 31, .ref 32, .ref 547, .ref 573, .int (w ((6 * c : Nat) : Int))] [] μ := by
  have hN := hK.N
  refine run_ok (pc' := 1225) [(.aload_n 1, 0, 0, 0)] _ _ _ _ (by decide +kernel) ?_
  show G Γ m_LW_law 63 (b1 + 1, b2 + 6) Q 1225 [.ref 31, .ref 32, .ref 547, .ref 573, .int (w ((6 * c : Nat) : Int))] [.ref 32] μ
  refine g_arg 1 (by decide +kernel) (by decide) hL h3 hN.2 ?_
  show G Γ m_LW_law 63 (b1 + 1, b2 + 6) Q 1231 [.ref 31, .ref 32, .ref 547, .ref 573, .int (w ((6 * c : Nat) : Int))] [.int (xs (6 * c + 1)), .ref 32] μ
  refine g_invV (M := m_LW_law) (i := 149) (M' := m_FB_what) (b1 := b1 + 1) (b2 := b2 + 6) (As := [.int (xs (6 * c + 1))]) (a := 32) (st := []) lk_12_149 (by decide +kernel) rfl (dk_FB_what 62) (Nat.le_of_ble_eq_true rfl) (Or.inl ⟨10, ob32 hN.1, rfl⟩) (S_what hf (by decide) (by omega) hK (xs (6 * c + 1))) ?_
  rintro _ μ1 ⟨r, rfl, hx1, hc1⟩ hn1
  show G Γ m_LW_law 63 (b1 + 1, b2 + 6) Q 1234 [.ref 31, .ref 32, .ref 547, .ref 573, .int (w ((6 * c : Nat) : Int))] [.int r] μ1
  refine run_ok (pc' := 1235) [(.aload_n 2, 0, 0, 0)] _ _ _ _ (by decide +kernel) ?_
  show G Γ m_LW_law 63 (b1 + 1, b2 + 6) Q 1235 [.ref 31, .ref 32, .ref 547, .ref 573, .int (w ((6 * c : Nat) : Int))] [.ref 547, .int r] μ1
  refine g_arg 1 (by decide +kernel) (by decide) hL h3 hx1 ?_
  show G Γ m_LW_law 63 (b1 + 1, b2 + 6) Q 1241 [.ref 31, .ref 32, .ref 547, .ref 573, .int (w ((6 * c : Nat) : Int))] [.int (xs (6 * c + 1)), .ref 547, .int r] μ1
  refine g_invV (M := m_LW_law) (i := 152) (M' := m_MO_what) (b1 := b1 + 1) (b2 := b2 + 6) (As := [.int (xs (6 * c + 1))]) (a := 547) (st := [.int r]) lk_12_152 (by decide +kernel) rfl (dk_MO_what 62) (Nat.le_of_ble_eq_true rfl) (Or.inl ⟨11, ob546 (Nat.le_trans hN.1 hn1), rfl⟩) hc1 ?_
  rintro _ μ2 ⟨r2, rfl, e2, hK2⟩ hn2
  subst e2
  show G Γ m_LW_law 63 (b1 + 1, b2 + 6) Q 1244 [.ref 31, .ref 32, .ref 547, .ref 573, .int (w ((6 * c : Nat) : Int))] [.int r2, .int r2] μ2
  exact g_icmp_eq (pc' := 1689) (off := 445) (by decide) (by decide +kernel) (fun _ => g_less (next μ2 hK2)) (fun z => absurd rfl z)
set_option maxRecDepth 100000 in
theorem lk_12_153 : LkV 12 153 m_FB_found 3 := ⟨lc_FB_found, lwG_in (List.mem_of_getElem? (i := 1036) rfl) rfl, lwG_in (List.mem_of_getElem? (i := 1037) rfl) rfl, lwG_in (List.mem_of_getElem? (i := 1038) rfl) rfl⟩
set_option maxRecDepth 100000 in
theorem lk_12_156 : LkV 12 156 m_MO_found 3 := ⟨lc_MO_found, lwG_in (List.mem_of_getElem? (i := 1851) rfl) rfl, lwG_in (List.mem_of_getElem? (i := 1852) rfl) rfl, lwG_in (List.mem_of_getElem? (i := 1853) rfl) rfl⟩
set_option maxRecDepth 100000 in
theorem LW_case30 {Γ : XG} {c b1 b2 : Nat} {Q : Option Value → XM → Prop} {μ : XM} {xs : Nat → Int32} (hf : FM Γ) (hc : c ≤ 511) (hL : 6 * c + 6 ≤ Γ.2.2.2.2.2.2) (h3 : Γ.2.2.2.2.2.2 ≤ 3072) (hK : KS xs μ c) (next : ∀ μ2, KS xs μ2 (c + 1) → G Γ m_LW_law 63 (b1, b2) Q 1689 [.ref 31, .ref 32, .ref 547, .ref 573, .int (w ((6 * c : Nat) : Int))] [] μ2) : G Γ m_LW_law 63 (b1 + 1, b2 + 6) Q 1249 [.ref 31, .ref 32, .ref 547, .ref 573, .int (w ((6 * c : Nat) : Int))] [] μ := by
  have hN := hK.N
  refine run_ok (pc' := 1250) [(.aload_n 1, 0, 0, 0)] _ _ _ _ (by decide +kernel) ?_
  show G Γ m_LW_law 63 (b1 + 1, b2 + 6) Q 1250 [.ref 31, .ref 32, .ref 547, .ref 573, .int (w ((6 * c : Nat) : Int))] [.ref 32] μ
  refine g_arg 1 (by decide +kernel) (by decide) hL h3 hN.2 ?_
  show G Γ m_LW_law 63 (b1 + 1, b2 + 6) Q 1256 [.ref 31, .ref 32, .ref 547, .ref 573, .int (w ((6 * c : Nat) : Int))] [.int (xs (6 * c + 1)), .ref 32] μ
  refine g_arg 2 (by decide +kernel) (by decide) hL h3 hN.2 ?_
  show G Γ m_LW_law 63 (b1 + 1, b2 + 6) Q 1262 [.ref 31, .ref 32, .ref 547, .ref 573, .int (w ((6 * c : Nat) : Int))] [.int (xs (6 * c + 2)), .int (xs (6 * c + 1)), .ref 32] μ
  refine g_arg 3 (by decide +kernel) (by decide) hL h3 hN.2 ?_
  show G Γ m_LW_law 63 (b1 + 1, b2 + 6) Q 1268 [.ref 31, .ref 32, .ref 547, .ref 573, .int (w ((6 * c : Nat) : Int))] [.int (xs (6 * c + 3)), .int (xs (6 * c + 2)), .int (xs (6 * c + 1)), .ref 32] μ
  refine g_z01 (by decide +kernel) ?_
  show G Γ m_LW_law 63 (b1 + 1, b2 + 6) Q 1276 [.ref 31, .ref 32, .ref 547, .ref 573, .int (w ((6 * c : Nat) : Int))] [.int (w (z01 (xs (6 * c + 3)))), .int (xs (6 * c + 2)), .int (xs (6 * c + 1)), .ref 32] μ
  refine g_invV (M := m_LW_law) (i := 153) (M' := m_FB_found) (b1 := b1 + 1) (b2 := b2 + 6) (As := [.int (xs (6 * c + 1)), .int (xs (6 * c + 2)), .int (w (z01 (xs (6 * c + 3))))]) (a := 32) (st := []) lk_12_153 (by decide +kernel) rfl (dk_FB_found 62) (Nat.le_of_ble_eq_true rfl) (Or.inl ⟨10, ob32 hN.1, rfl⟩) (S_found hf (by decide) (by omega) hK (xs (6 * c + 1)) (xs (6 * c + 2)) (z01 (xs (6 * c + 3))) (z01_bd _).2) ?_
  rintro _ μ1 ⟨r, rfl, hx1, hc1⟩ hn1
  show G Γ m_LW_law 63 (b1 + 1, b2 + 6) Q 1279 [.ref 31, .ref 32, .ref 547, .ref 573, .int (w ((6 * c : Nat) : Int))] [.int r] μ1
  refine run_ok (pc' := 1280) [(.aload_n 2, 0, 0, 0)] _ _ _ _ (by decide +kernel) ?_
  show G Γ m_LW_law 63 (b1 + 1, b2 + 6) Q 1280 [.ref 31, .ref 32, .ref 547, .ref 573, .int (w ((6 * c : Nat) : Int))] [.ref 547, .int r] μ1
  refine g_arg 1 (by decide +kernel) (by decide) hL h3 hx1 ?_
  show G Γ m_LW_law 63 (b1 + 1, b2 + 6) Q 1286 [.ref 31, .ref 32, .ref 547, .ref 573, .int (w ((6 * c : Nat) : Int))] [.int (xs (6 * c + 1)), .ref 547, .int r] μ1
  refine g_arg 2 (by decide +kernel) (by decide) hL h3 hx1 ?_
  show G Γ m_LW_law 63 (b1 + 1, b2 + 6) Q 1292 [.ref 31, .ref 32, .ref 547, .ref 573, .int (w ((6 * c : Nat) : Int))] [.int (xs (6 * c + 2)), .int (xs (6 * c + 1)), .ref 547, .int r] μ1
  refine g_arg 3 (by decide +kernel) (by decide) hL h3 hx1 ?_
  show G Γ m_LW_law 63 (b1 + 1, b2 + 6) Q 1298 [.ref 31, .ref 32, .ref 547, .ref 573, .int (w ((6 * c : Nat) : Int))] [.int (xs (6 * c + 3)), .int (xs (6 * c + 2)), .int (xs (6 * c + 1)), .ref 547, .int r] μ1
  refine g_z01 (by decide +kernel) ?_
  show G Γ m_LW_law 63 (b1 + 1, b2 + 6) Q 1306 [.ref 31, .ref 32, .ref 547, .ref 573, .int (w ((6 * c : Nat) : Int))] [.int (w (z01 (xs (6 * c + 3)))), .int (xs (6 * c + 2)), .int (xs (6 * c + 1)), .ref 547, .int r] μ1
  refine g_invV (M := m_LW_law) (i := 156) (M' := m_MO_found) (b1 := b1 + 1) (b2 := b2 + 6) (As := [.int (xs (6 * c + 1)), .int (xs (6 * c + 2)), .int (w (z01 (xs (6 * c + 3))))]) (a := 547) (st := [.int r]) lk_12_156 (by decide +kernel) rfl (dk_MO_found 62) (Nat.le_of_ble_eq_true rfl) (Or.inl ⟨11, ob546 (Nat.le_trans hN.1 hn1), rfl⟩) hc1 ?_
  rintro _ μ2 ⟨r2, rfl, e2, hK2⟩ hn2
  subst e2
  show G Γ m_LW_law 63 (b1 + 1, b2 + 6) Q 1309 [.ref 31, .ref 32, .ref 547, .ref 573, .int (w ((6 * c : Nat) : Int))] [.int r2, .int r2] μ2
  exact g_icmp_eq (pc' := 1689) (off := 380) (by decide) (by decide +kernel) (fun _ => g_less (next μ2 hK2)) (fun z => absurd rfl z)
set_option maxRecDepth 100000 in
theorem lk_12_157 : LkV 12 157 m_FB_history 2 := ⟨lc_FB_history, lwG_in (List.mem_of_getElem? (i := 1044) rfl) rfl, lwG_in (List.mem_of_getElem? (i := 1045) rfl) rfl, lwG_in (List.mem_of_getElem? (i := 1046) rfl) rfl⟩
set_option maxRecDepth 100000 in
theorem lk_12_160 : LkV 12 160 m_MO_history 2 := ⟨lc_MO_history, lwG_in (List.mem_of_getElem? (i := 1855) rfl) rfl, lwG_in (List.mem_of_getElem? (i := 1856) rfl) rfl, lwG_in (List.mem_of_getElem? (i := 1857) rfl) rfl⟩
set_option maxRecDepth 100000 in
theorem LW_case31 {Γ : XG} {c b1 b2 : Nat} {Q : Option Value → XM → Prop} {μ : XM} {xs : Nat → Int32} (hf : FM Γ) (hc : c ≤ 511) (hL : 6 * c + 6 ≤ Γ.2.2.2.2.2.2) (h3 : Γ.2.2.2.2.2.2 ≤ 3072) (hK : KS xs μ c) (next : ∀ μ2, KS xs μ2 (c + 1) → G Γ m_LW_law 63 (b1, b2) Q 1689 [.ref 31, .ref 32, .ref 547, .ref 573, .int (w ((6 * c : Nat) : Int))] [] μ2) : G Γ m_LW_law 63 (b1 + 1, b2 + 6) Q 1314 [.ref 31, .ref 32, .ref 547, .ref 573, .int (w ((6 * c : Nat) : Int))] [] μ := by
  have hN := hK.N
  refine run_ok (pc' := 1315) [(.aload_n 1, 0, 0, 0)] _ _ _ _ (by decide +kernel) ?_
  show G Γ m_LW_law 63 (b1 + 1, b2 + 6) Q 1315 [.ref 31, .ref 32, .ref 547, .ref 573, .int (w ((6 * c : Nat) : Int))] [.ref 32] μ
  refine g_arg 1 (by decide +kernel) (by decide) hL h3 hN.2 ?_
  show G Γ m_LW_law 63 (b1 + 1, b2 + 6) Q 1321 [.ref 31, .ref 32, .ref 547, .ref 573, .int (w ((6 * c : Nat) : Int))] [.int (xs (6 * c + 1)), .ref 32] μ
  refine g_arg 2 (by decide +kernel) (by decide) hL h3 hN.2 ?_
  show G Γ m_LW_law 63 (b1 + 1, b2 + 6) Q 1327 [.ref 31, .ref 32, .ref 547, .ref 573, .int (w ((6 * c : Nat) : Int))] [.int (xs (6 * c + 2)), .int (xs (6 * c + 1)), .ref 32] μ
  refine g_invV (M := m_LW_law) (i := 157) (M' := m_FB_history) (b1 := b1 + 1) (b2 := b2 + 6) (As := [.int (xs (6 * c + 1)), .int (xs (6 * c + 2))]) (a := 32) (st := []) lk_12_157 (by decide +kernel) rfl (dk_FB_history 62) (Nat.le_of_ble_eq_true rfl) (Or.inl ⟨10, ob32 hN.1, rfl⟩) (S_history hf (by decide) (by omega) hK (xs (6 * c + 1)) (xs (6 * c + 2))) ?_
  rintro _ μ1 ⟨r, rfl, hx1, hc1⟩ hn1
  show G Γ m_LW_law 63 (b1 + 1, b2 + 6) Q 1330 [.ref 31, .ref 32, .ref 547, .ref 573, .int (w ((6 * c : Nat) : Int))] [.int r] μ1
  refine run_ok (pc' := 1331) [(.aload_n 2, 0, 0, 0)] _ _ _ _ (by decide +kernel) ?_
  show G Γ m_LW_law 63 (b1 + 1, b2 + 6) Q 1331 [.ref 31, .ref 32, .ref 547, .ref 573, .int (w ((6 * c : Nat) : Int))] [.ref 547, .int r] μ1
  refine g_arg 1 (by decide +kernel) (by decide) hL h3 hx1 ?_
  show G Γ m_LW_law 63 (b1 + 1, b2 + 6) Q 1337 [.ref 31, .ref 32, .ref 547, .ref 573, .int (w ((6 * c : Nat) : Int))] [.int (xs (6 * c + 1)), .ref 547, .int r] μ1
  refine g_arg 2 (by decide +kernel) (by decide) hL h3 hx1 ?_
  show G Γ m_LW_law 63 (b1 + 1, b2 + 6) Q 1343 [.ref 31, .ref 32, .ref 547, .ref 573, .int (w ((6 * c : Nat) : Int))] [.int (xs (6 * c + 2)), .int (xs (6 * c + 1)), .ref 547, .int r] μ1
  refine g_invV (M := m_LW_law) (i := 160) (M' := m_MO_history) (b1 := b1 + 1) (b2 := b2 + 6) (As := [.int (xs (6 * c + 1)), .int (xs (6 * c + 2))]) (a := 547) (st := [.int r]) lk_12_160 (by decide +kernel) rfl (dk_MO_history 62) (Nat.le_of_ble_eq_true rfl) (Or.inl ⟨11, ob546 (Nat.le_trans hN.1 hn1), rfl⟩) hc1 ?_
  rintro _ μ2 ⟨r2, rfl, e2, hK2⟩ hn2
  subst e2
  show G Γ m_LW_law 63 (b1 + 1, b2 + 6) Q 1346 [.ref 31, .ref 32, .ref 547, .ref 573, .int (w ((6 * c : Nat) : Int))] [.int r2, .int r2] μ2
  exact g_icmp_eq (pc' := 1689) (off := 343) (by decide) (by decide +kernel) (fun _ => g_less (next μ2 hK2)) (fun z => absurd rfl z)
set_option maxRecDepth 100000 in
theorem lk_12_161 : LkV 12 161 m_FB_share 1 := ⟨lc_FB_share, lwG_in (List.mem_of_getElem? (i := 1069) rfl) rfl, lwG_in (List.mem_of_getElem? (i := 1070) rfl) rfl, lwG_in (List.mem_of_getElem? (i := 1071) rfl) rfl⟩
set_option maxRecDepth 100000 in
theorem lk_12_164 : LkV 12 164 m_MO_share 1 := ⟨lc_MO_share, lwG_in (List.mem_of_getElem? (i := 1872) rfl) rfl, lwG_in (List.mem_of_getElem? (i := 1873) rfl) rfl, lwG_in (List.mem_of_getElem? (i := 1874) rfl) rfl⟩
set_option maxRecDepth 100000 in
theorem LW_case32 {Γ : XG} {c b1 b2 : Nat} {Q : Option Value → XM → Prop} {μ : XM} {xs : Nat → Int32} (hf : FM Γ) (hc : c ≤ 511) (hL : 6 * c + 6 ≤ Γ.2.2.2.2.2.2) (h3 : Γ.2.2.2.2.2.2 ≤ 3072) (hK : KS xs μ c) (next : ∀ μ2, KS xs μ2 (c + 1) → G Γ m_LW_law 63 (b1, b2) Q 1689 [.ref 31, .ref 32, .ref 547, .ref 573, .int (w ((6 * c : Nat) : Int))] [] μ2) : G Γ m_LW_law 63 (b1 + 1, b2 + 6) Q 1351 [.ref 31, .ref 32, .ref 547, .ref 573, .int (w ((6 * c : Nat) : Int))] [] μ := by
  have hN := hK.N
  refine run_ok (pc' := 1352) [(.aload_n 1, 0, 0, 0)] _ _ _ _ (by decide +kernel) ?_
  show G Γ m_LW_law 63 (b1 + 1, b2 + 6) Q 1352 [.ref 31, .ref 32, .ref 547, .ref 573, .int (w ((6 * c : Nat) : Int))] [.ref 32] μ
  refine g_arg 1 (by decide +kernel) (by decide) hL h3 hN.2 ?_
  show G Γ m_LW_law 63 (b1 + 1, b2 + 6) Q 1358 [.ref 31, .ref 32, .ref 547, .ref 573, .int (w ((6 * c : Nat) : Int))] [.int (xs (6 * c + 1)), .ref 32] μ
  refine g_invV (M := m_LW_law) (i := 161) (M' := m_FB_share) (b1 := b1 + 1) (b2 := b2 + 6) (As := [.int (xs (6 * c + 1))]) (a := 32) (st := []) lk_12_161 (by decide +kernel) rfl (dk_FB_share 62) (Nat.le_of_ble_eq_true rfl) (Or.inl ⟨10, ob32 hN.1, rfl⟩) (S_share hf (by decide) (by omega) hK (xs (6 * c + 1))) ?_
  rintro _ μ1 ⟨r, rfl, hx1, hc1⟩ hn1
  show G Γ m_LW_law 63 (b1 + 1, b2 + 6) Q 1361 [.ref 31, .ref 32, .ref 547, .ref 573, .int (w ((6 * c : Nat) : Int))] [.int r] μ1
  refine run_ok (pc' := 1362) [(.aload_n 2, 0, 0, 0)] _ _ _ _ (by decide +kernel) ?_
  show G Γ m_LW_law 63 (b1 + 1, b2 + 6) Q 1362 [.ref 31, .ref 32, .ref 547, .ref 573, .int (w ((6 * c : Nat) : Int))] [.ref 547, .int r] μ1
  refine g_arg 1 (by decide +kernel) (by decide) hL h3 hx1 ?_
  show G Γ m_LW_law 63 (b1 + 1, b2 + 6) Q 1368 [.ref 31, .ref 32, .ref 547, .ref 573, .int (w ((6 * c : Nat) : Int))] [.int (xs (6 * c + 1)), .ref 547, .int r] μ1
  refine g_invV (M := m_LW_law) (i := 164) (M' := m_MO_share) (b1 := b1 + 1) (b2 := b2 + 6) (As := [.int (xs (6 * c + 1))]) (a := 547) (st := [.int r]) lk_12_164 (by decide +kernel) rfl (dk_MO_share 62) (Nat.le_of_ble_eq_true rfl) (Or.inl ⟨11, ob546 (Nat.le_trans hN.1 hn1), rfl⟩) hc1 ?_
  rintro _ μ2 ⟨r2, rfl, e2, hK2⟩ hn2
  subst e2
  show G Γ m_LW_law 63 (b1 + 1, b2 + 6) Q 1371 [.ref 31, .ref 32, .ref 547, .ref 573, .int (w ((6 * c : Nat) : Int))] [.int r2, .int r2] μ2
  exact g_icmp_eq (pc' := 1689) (off := 318) (by decide) (by decide +kernel) (fun _ => g_less (next μ2 hK2)) (fun z => absurd rfl z)
set_option maxRecDepth 100000 in
theorem lk_12_165 : LkV 12 165 m_FB_lot 1 := ⟨lc_FB_lot, lwG_in (List.mem_of_getElem? (i := 1082) rfl) rfl, lwG_in (List.mem_of_getElem? (i := 1083) rfl) rfl, lwG_in (List.mem_of_getElem? (i := 1084) rfl) rfl⟩
set_option maxRecDepth 100000 in
theorem lk_12_168 : LkV 12 168 m_MO_lot 1 := ⟨lc_MO_lot, lwG_in (List.mem_of_getElem? (i := 1876) rfl) rfl, lwG_in (List.mem_of_getElem? (i := 1877) rfl) rfl, lwG_in (List.mem_of_getElem? (i := 1878) rfl) rfl⟩
set_option maxRecDepth 100000 in
theorem LW_case33 {Γ : XG} {c b1 b2 : Nat} {Q : Option Value → XM → Prop} {μ : XM} {xs : Nat → Int32} (hf : FM Γ) (hc : c ≤ 511) (hL : 6 * c + 6 ≤ Γ.2.2.2.2.2.2) (h3 : Γ.2.2.2.2.2.2 ≤ 3072) (hK : KS xs μ c) (next : ∀ μ2, KS xs μ2 (c + 1) → G Γ m_LW_law 63 (b1, b2) Q 1689 [.ref 31, .ref 32, .ref 547, .ref 573, .int (w ((6 * c : Nat) : Int))] [] μ2) : G Γ m_LW_law 63 (b1 + 1, b2 + 6) Q 1376 [.ref 31, .ref 32, .ref 547, .ref 573, .int (w ((6 * c : Nat) : Int))] [] μ := by
  have hN := hK.N
  refine run_ok (pc' := 1377) [(.aload_n 1, 0, 0, 0)] _ _ _ _ (by decide +kernel) ?_
  show G Γ m_LW_law 63 (b1 + 1, b2 + 6) Q 1377 [.ref 31, .ref 32, .ref 547, .ref 573, .int (w ((6 * c : Nat) : Int))] [.ref 32] μ
  refine g_arg 1 (by decide +kernel) (by decide) hL h3 hN.2 ?_
  show G Γ m_LW_law 63 (b1 + 1, b2 + 6) Q 1383 [.ref 31, .ref 32, .ref 547, .ref 573, .int (w ((6 * c : Nat) : Int))] [.int (xs (6 * c + 1)), .ref 32] μ
  refine g_invV (M := m_LW_law) (i := 165) (M' := m_FB_lot) (b1 := b1 + 1) (b2 := b2 + 6) (As := [.int (xs (6 * c + 1))]) (a := 32) (st := []) lk_12_165 (by decide +kernel) rfl (dk_FB_lot 62) (Nat.le_of_ble_eq_true rfl) (Or.inl ⟨10, ob32 hN.1, rfl⟩) (S_lot hf (by decide) (by omega) hK (xs (6 * c + 1))) ?_
  rintro _ μ1 ⟨r, rfl, hx1, hc1⟩ hn1
  show G Γ m_LW_law 63 (b1 + 1, b2 + 6) Q 1386 [.ref 31, .ref 32, .ref 547, .ref 573, .int (w ((6 * c : Nat) : Int))] [.int r] μ1
  refine run_ok (pc' := 1387) [(.aload_n 2, 0, 0, 0)] _ _ _ _ (by decide +kernel) ?_
  show G Γ m_LW_law 63 (b1 + 1, b2 + 6) Q 1387 [.ref 31, .ref 32, .ref 547, .ref 573, .int (w ((6 * c : Nat) : Int))] [.ref 547, .int r] μ1
  refine g_arg 1 (by decide +kernel) (by decide) hL h3 hx1 ?_
  show G Γ m_LW_law 63 (b1 + 1, b2 + 6) Q 1393 [.ref 31, .ref 32, .ref 547, .ref 573, .int (w ((6 * c : Nat) : Int))] [.int (xs (6 * c + 1)), .ref 547, .int r] μ1
  refine g_invV (M := m_LW_law) (i := 168) (M' := m_MO_lot) (b1 := b1 + 1) (b2 := b2 + 6) (As := [.int (xs (6 * c + 1))]) (a := 547) (st := [.int r]) lk_12_168 (by decide +kernel) rfl (dk_MO_lot 62) (Nat.le_of_ble_eq_true rfl) (Or.inl ⟨11, ob546 (Nat.le_trans hN.1 hn1), rfl⟩) hc1 ?_
  rintro _ μ2 ⟨r2, rfl, e2, hK2⟩ hn2
  subst e2
  show G Γ m_LW_law 63 (b1 + 1, b2 + 6) Q 1396 [.ref 31, .ref 32, .ref 547, .ref 573, .int (w ((6 * c : Nat) : Int))] [.int r2, .int r2] μ2
  exact g_icmp_eq (pc' := 1689) (off := 293) (by decide) (by decide +kernel) (fun _ => g_less (next μ2 hK2)) (fun z => absurd rfl z)
set_option maxRecDepth 100000 in
theorem lk_12_169 : LkV 12 169 m_FB_labels 2 := ⟨lc_FB_labels, lwG_in (List.mem_of_getElem? (i := 1086) rfl) rfl, lwG_in (List.mem_of_getElem? (i := 1087) rfl) rfl, lwG_in (List.mem_of_getElem? (i := 1088) rfl) rfl⟩
set_option maxRecDepth 100000 in
theorem lk_12_172 : LkV 12 172 m_MO_labels 2 := ⟨lc_MO_labels, lwG_in (List.mem_of_getElem? (i := 1880) rfl) rfl, lwG_in (List.mem_of_getElem? (i := 1881) rfl) rfl, lwG_in (List.mem_of_getElem? (i := 1882) rfl) rfl⟩
set_option maxRecDepth 100000 in
theorem LW_case34 {Γ : XG} {c b1 b2 : Nat} {Q : Option Value → XM → Prop} {μ : XM} {xs : Nat → Int32} (hf : FM Γ) (hc : c ≤ 511) (hL : 6 * c + 6 ≤ Γ.2.2.2.2.2.2) (h3 : Γ.2.2.2.2.2.2 ≤ 3072) (hK : KS xs μ c) (next : ∀ μ2, KS xs μ2 (c + 1) → G Γ m_LW_law 63 (b1, b2) Q 1689 [.ref 31, .ref 32, .ref 547, .ref 573, .int (w ((6 * c : Nat) : Int))] [] μ2) : G Γ m_LW_law 63 (b1 + 1, b2 + 6) Q 1401 [.ref 31, .ref 32, .ref 547, .ref 573, .int (w ((6 * c : Nat) : Int))] [] μ := by
  have hN := hK.N
  refine run_ok (pc' := 1402) [(.aload_n 1, 0, 0, 0)] _ _ _ _ (by decide +kernel) ?_
  show G Γ m_LW_law 63 (b1 + 1, b2 + 6) Q 1402 [.ref 31, .ref 32, .ref 547, .ref 573, .int (w ((6 * c : Nat) : Int))] [.ref 32] μ
  refine g_arg 1 (by decide +kernel) (by decide) hL h3 hN.2 ?_
  show G Γ m_LW_law 63 (b1 + 1, b2 + 6) Q 1408 [.ref 31, .ref 32, .ref 547, .ref 573, .int (w ((6 * c : Nat) : Int))] [.int (xs (6 * c + 1)), .ref 32] μ
  refine g_arg 2 (by decide +kernel) (by decide) hL h3 hN.2 ?_
  show G Γ m_LW_law 63 (b1 + 1, b2 + 6) Q 1414 [.ref 31, .ref 32, .ref 547, .ref 573, .int (w ((6 * c : Nat) : Int))] [.int (xs (6 * c + 2)), .int (xs (6 * c + 1)), .ref 32] μ
  refine g_invV (M := m_LW_law) (i := 169) (M' := m_FB_labels) (b1 := b1 + 1) (b2 := b2 + 6) (As := [.int (xs (6 * c + 1)), .int (xs (6 * c + 2))]) (a := 32) (st := []) lk_12_169 (by decide +kernel) rfl (dk_FB_labels 62) (Nat.le_of_ble_eq_true rfl) (Or.inl ⟨10, ob32 hN.1, rfl⟩) (S_labels hf (by decide) (by omega) hK (xs (6 * c + 1)) (xs (6 * c + 2))) ?_
  rintro _ μ1 ⟨r, rfl, hx1, hc1⟩ hn1
  show G Γ m_LW_law 63 (b1 + 1, b2 + 6) Q 1417 [.ref 31, .ref 32, .ref 547, .ref 573, .int (w ((6 * c : Nat) : Int))] [.int r] μ1
  refine run_ok (pc' := 1418) [(.aload_n 2, 0, 0, 0)] _ _ _ _ (by decide +kernel) ?_
  show G Γ m_LW_law 63 (b1 + 1, b2 + 6) Q 1418 [.ref 31, .ref 32, .ref 547, .ref 573, .int (w ((6 * c : Nat) : Int))] [.ref 547, .int r] μ1
  refine g_arg 1 (by decide +kernel) (by decide) hL h3 hx1 ?_
  show G Γ m_LW_law 63 (b1 + 1, b2 + 6) Q 1424 [.ref 31, .ref 32, .ref 547, .ref 573, .int (w ((6 * c : Nat) : Int))] [.int (xs (6 * c + 1)), .ref 547, .int r] μ1
  refine g_arg 2 (by decide +kernel) (by decide) hL h3 hx1 ?_
  show G Γ m_LW_law 63 (b1 + 1, b2 + 6) Q 1430 [.ref 31, .ref 32, .ref 547, .ref 573, .int (w ((6 * c : Nat) : Int))] [.int (xs (6 * c + 2)), .int (xs (6 * c + 1)), .ref 547, .int r] μ1
  refine g_invV (M := m_LW_law) (i := 172) (M' := m_MO_labels) (b1 := b1 + 1) (b2 := b2 + 6) (As := [.int (xs (6 * c + 1)), .int (xs (6 * c + 2))]) (a := 547) (st := [.int r]) lk_12_172 (by decide +kernel) rfl (dk_MO_labels 62) (Nat.le_of_ble_eq_true rfl) (Or.inl ⟨11, ob546 (Nat.le_trans hN.1 hn1), rfl⟩) hc1 ?_
  rintro _ μ2 ⟨r2, rfl, e2, hK2⟩ hn2
  subst e2
  show G Γ m_LW_law 63 (b1 + 1, b2 + 6) Q 1433 [.ref 31, .ref 32, .ref 547, .ref 573, .int (w ((6 * c : Nat) : Int))] [.int r2, .int r2] μ2
  exact g_icmp_eq (pc' := 1689) (off := 256) (by decide) (by decide +kernel) (fun _ => g_less (next μ2 hK2)) (fun z => absurd rfl z)
set_option maxRecDepth 100000 in
theorem lk_12_173 : LkV 12 173 m_FB_rests 1 := ⟨lc_FB_rests, lwG_in (List.mem_of_getElem? (i := 1095) rfl) rfl, lwG_in (List.mem_of_getElem? (i := 1096) rfl) rfl, lwG_in (List.mem_of_getElem? (i := 1097) rfl) rfl⟩
set_option maxRecDepth 100000 in
theorem lk_12_176 : LkV 12 176 m_MO_rests 1 := ⟨lc_MO_rests, lwG_in (List.mem_of_getElem? (i := 1889) rfl) rfl, lwG_in (List.mem_of_getElem? (i := 1890) rfl) rfl, lwG_in (List.mem_of_getElem? (i := 1891) rfl) rfl⟩
set_option maxRecDepth 100000 in
theorem LW_case35 {Γ : XG} {c b1 b2 : Nat} {Q : Option Value → XM → Prop} {μ : XM} {xs : Nat → Int32} (hf : FM Γ) (hc : c ≤ 511) (hL : 6 * c + 6 ≤ Γ.2.2.2.2.2.2) (h3 : Γ.2.2.2.2.2.2 ≤ 3072) (hK : KS xs μ c) (next : ∀ μ2, KS xs μ2 (c + 1) → G Γ m_LW_law 63 (b1, b2) Q 1689 [.ref 31, .ref 32, .ref 547, .ref 573, .int (w ((6 * c : Nat) : Int))] [] μ2) : G Γ m_LW_law 63 (b1 + 1, b2 + 6) Q 1438 [.ref 31, .ref 32, .ref 547, .ref 573, .int (w ((6 * c : Nat) : Int))] [] μ := by
  have hN := hK.N
  refine run_ok (pc' := 1439) [(.aload_n 1, 0, 0, 0)] _ _ _ _ (by decide +kernel) ?_
  show G Γ m_LW_law 63 (b1 + 1, b2 + 6) Q 1439 [.ref 31, .ref 32, .ref 547, .ref 573, .int (w ((6 * c : Nat) : Int))] [.ref 32] μ
  refine g_arg 1 (by decide +kernel) (by decide) hL h3 hN.2 ?_
  show G Γ m_LW_law 63 (b1 + 1, b2 + 6) Q 1445 [.ref 31, .ref 32, .ref 547, .ref 573, .int (w ((6 * c : Nat) : Int))] [.int (xs (6 * c + 1)), .ref 32] μ
  refine g_invV (M := m_LW_law) (i := 173) (M' := m_FB_rests) (b1 := b1 + 1) (b2 := b2 + 6) (As := [.int (xs (6 * c + 1))]) (a := 32) (st := []) lk_12_173 (by decide +kernel) rfl (dk_FB_rests 62) (Nat.le_of_ble_eq_true rfl) (Or.inl ⟨10, ob32 hN.1, rfl⟩) (S_rests hf (by decide) (by omega) hK (xs (6 * c + 1))) ?_
  rintro _ μ1 ⟨r, rfl, hx1, hc1⟩ hn1
  show G Γ m_LW_law 63 (b1 + 1, b2 + 6) Q 1448 [.ref 31, .ref 32, .ref 547, .ref 573, .int (w ((6 * c : Nat) : Int))] [.int r] μ1
  refine run_ok (pc' := 1449) [(.aload_n 2, 0, 0, 0)] _ _ _ _ (by decide +kernel) ?_
  show G Γ m_LW_law 63 (b1 + 1, b2 + 6) Q 1449 [.ref 31, .ref 32, .ref 547, .ref 573, .int (w ((6 * c : Nat) : Int))] [.ref 547, .int r] μ1
  refine g_arg 1 (by decide +kernel) (by decide) hL h3 hx1 ?_
  show G Γ m_LW_law 63 (b1 + 1, b2 + 6) Q 1455 [.ref 31, .ref 32, .ref 547, .ref 573, .int (w ((6 * c : Nat) : Int))] [.int (xs (6 * c + 1)), .ref 547, .int r] μ1
  refine g_invV (M := m_LW_law) (i := 176) (M' := m_MO_rests) (b1 := b1 + 1) (b2 := b2 + 6) (As := [.int (xs (6 * c + 1))]) (a := 547) (st := [.int r]) lk_12_176 (by decide +kernel) rfl (dk_MO_rests 62) (Nat.le_of_ble_eq_true rfl) (Or.inl ⟨11, ob546 (Nat.le_trans hN.1 hn1), rfl⟩) hc1 ?_
  rintro _ μ2 ⟨r2, rfl, e2, hK2⟩ hn2
  subst e2
  show G Γ m_LW_law 63 (b1 + 1, b2 + 6) Q 1458 [.ref 31, .ref 32, .ref 547, .ref 573, .int (w ((6 * c : Nat) : Int))] [.int r2, .int r2] μ2
  exact g_icmp_eq (pc' := 1689) (off := 231) (by decide) (by decide +kernel) (fun _ => g_less (next μ2 hK2)) (fun z => absurd rfl z)
set_option maxRecDepth 100000 in
theorem lk_12_177 : LkV 12 177 m_FB_most 1 := ⟨lc_FB_most, lwG_in (List.mem_of_getElem? (i := 1099) rfl) rfl, lwG_in (List.mem_of_getElem? (i := 1100) rfl) rfl, lwG_in (List.mem_of_getElem? (i := 1101) rfl) rfl⟩
set_option maxRecDepth 100000 in
theorem lk_12_180 : LkV 12 180 m_MO_most 1 := ⟨lc_MO_most, lwG_in (List.mem_of_getElem? (i := 1893) rfl) rfl, lwG_in (List.mem_of_getElem? (i := 1894) rfl) rfl, lwG_in (List.mem_of_getElem? (i := 1895) rfl) rfl⟩
set_option maxRecDepth 100000 in
theorem LW_case36 {Γ : XG} {c b1 b2 : Nat} {Q : Option Value → XM → Prop} {μ : XM} {xs : Nat → Int32} (hf : FM Γ) (hc : c ≤ 511) (hL : 6 * c + 6 ≤ Γ.2.2.2.2.2.2) (h3 : Γ.2.2.2.2.2.2 ≤ 3072) (hK : KS xs μ c) (next : ∀ μ2, KS xs μ2 (c + 1) → G Γ m_LW_law 63 (b1, b2) Q 1689 [.ref 31, .ref 32, .ref 547, .ref 573, .int (w ((6 * c : Nat) : Int))] [] μ2) : G Γ m_LW_law 63 (b1 + 1, b2 + 6) Q 1463 [.ref 31, .ref 32, .ref 547, .ref 573, .int (w ((6 * c : Nat) : Int))] [] μ := by
  have hN := hK.N
  refine run_ok (pc' := 1464) [(.aload_n 1, 0, 0, 0)] _ _ _ _ (by decide +kernel) ?_
  show G Γ m_LW_law 63 (b1 + 1, b2 + 6) Q 1464 [.ref 31, .ref 32, .ref 547, .ref 573, .int (w ((6 * c : Nat) : Int))] [.ref 32] μ
  refine g_arg 1 (by decide +kernel) (by decide) hL h3 hN.2 ?_
  show G Γ m_LW_law 63 (b1 + 1, b2 + 6) Q 1470 [.ref 31, .ref 32, .ref 547, .ref 573, .int (w ((6 * c : Nat) : Int))] [.int (xs (6 * c + 1)), .ref 32] μ
  refine g_invV (M := m_LW_law) (i := 177) (M' := m_FB_most) (b1 := b1 + 1) (b2 := b2 + 6) (As := [.int (xs (6 * c + 1))]) (a := 32) (st := []) lk_12_177 (by decide +kernel) rfl (dk_FB_most 62) (Nat.le_of_ble_eq_true rfl) (Or.inl ⟨10, ob32 hN.1, rfl⟩) (S_most hf (by decide) (by omega) hK (xs (6 * c + 1))) ?_
  rintro _ μ1 ⟨r, rfl, hx1, hc1⟩ hn1
  show G Γ m_LW_law 63 (b1 + 1, b2 + 6) Q 1473 [.ref 31, .ref 32, .ref 547, .ref 573, .int (w ((6 * c : Nat) : Int))] [.int r] μ1
  refine run_ok (pc' := 1474) [(.aload_n 2, 0, 0, 0)] _ _ _ _ (by decide +kernel) ?_
  show G Γ m_LW_law 63 (b1 + 1, b2 + 6) Q 1474 [.ref 31, .ref 32, .ref 547, .ref 573, .int (w ((6 * c : Nat) : Int))] [.ref 547, .int r] μ1
  refine g_arg 1 (by decide +kernel) (by decide) hL h3 hx1 ?_
  show G Γ m_LW_law 63 (b1 + 1, b2 + 6) Q 1480 [.ref 31, .ref 32, .ref 547, .ref 573, .int (w ((6 * c : Nat) : Int))] [.int (xs (6 * c + 1)), .ref 547, .int r] μ1
  refine g_invV (M := m_LW_law) (i := 180) (M' := m_MO_most) (b1 := b1 + 1) (b2 := b2 + 6) (As := [.int (xs (6 * c + 1))]) (a := 547) (st := [.int r]) lk_12_180 (by decide +kernel) rfl (dk_MO_most 62) (Nat.le_of_ble_eq_true rfl) (Or.inl ⟨11, ob546 (Nat.le_trans hN.1 hn1), rfl⟩) hc1 ?_
  rintro _ μ2 ⟨r2, rfl, e2, hK2⟩ hn2
  subst e2
  show G Γ m_LW_law 63 (b1 + 1, b2 + 6) Q 1483 [.ref 31, .ref 32, .ref 547, .ref 573, .int (w ((6 * c : Nat) : Int))] [.int r2, .int r2] μ2
  exact g_icmp_eq (pc' := 1689) (off := 206) (by decide) (by decide +kernel) (fun _ => g_less (next μ2 hK2)) (fun z => absurd rfl z)
set_option maxRecDepth 100000 in
theorem lk_12_181 : LkV 12 181 m_FB_spoilt 0 := ⟨lc_FB_spoilt, lwG_in (List.mem_of_getElem? (i := 1103) rfl) rfl, lwG_in (List.mem_of_getElem? (i := 1104) rfl) rfl, lwG_in (List.mem_of_getElem? (i := 1105) rfl) rfl⟩
set_option maxRecDepth 100000 in
theorem lk_12_184 : LkV 12 184 m_MO_spoilt 0 := ⟨lc_MO_spoilt, lwG_in (List.mem_of_getElem? (i := 1897) rfl) rfl, lwG_in (List.mem_of_getElem? (i := 1898) rfl) rfl, lwG_in (List.mem_of_getElem? (i := 1899) rfl) rfl⟩
set_option maxRecDepth 100000 in
theorem LW_case37 {Γ : XG} {c b1 b2 : Nat} {Q : Option Value → XM → Prop} {μ : XM} {xs : Nat → Int32} (hf : FM Γ) (hc : c ≤ 511) (hL : 6 * c + 6 ≤ Γ.2.2.2.2.2.2) (h3 : Γ.2.2.2.2.2.2 ≤ 3072) (hK : KS xs μ c) (next : ∀ μ2, KS xs μ2 (c + 1) → G Γ m_LW_law 63 (b1, b2) Q 1689 [.ref 31, .ref 32, .ref 547, .ref 573, .int (w ((6 * c : Nat) : Int))] [] μ2) : G Γ m_LW_law 63 (b1 + 1, b2 + 6) Q 1488 [.ref 31, .ref 32, .ref 547, .ref 573, .int (w ((6 * c : Nat) : Int))] [] μ := by
  have hN := hK.N
  refine run_ok (pc' := 1489) [(.aload_n 1, 0, 0, 0)] _ _ _ _ (by decide +kernel) ?_
  show G Γ m_LW_law 63 (b1 + 1, b2 + 6) Q 1489 [.ref 31, .ref 32, .ref 547, .ref 573, .int (w ((6 * c : Nat) : Int))] [.ref 32] μ
  refine g_invV (M := m_LW_law) (i := 181) (M' := m_FB_spoilt) (b1 := b1 + 1) (b2 := b2 + 6) (As := []) (a := 32) (st := []) lk_12_181 (by decide +kernel) rfl (dk_FB_spoilt 62) (Nat.le_of_ble_eq_true rfl) (Or.inl ⟨10, ob32 hN.1, rfl⟩) (S_spoilt hf (by decide) (by omega) hK ) ?_
  rintro _ μ1 ⟨r, rfl, hx1, hc1⟩ hn1
  show G Γ m_LW_law 63 (b1 + 1, b2 + 6) Q 1492 [.ref 31, .ref 32, .ref 547, .ref 573, .int (w ((6 * c : Nat) : Int))] [.int r] μ1
  refine run_ok (pc' := 1493) [(.aload_n 2, 0, 0, 0)] _ _ _ _ (by decide +kernel) ?_
  show G Γ m_LW_law 63 (b1 + 1, b2 + 6) Q 1493 [.ref 31, .ref 32, .ref 547, .ref 573, .int (w ((6 * c : Nat) : Int))] [.ref 547, .int r] μ1
  refine g_invV (M := m_LW_law) (i := 184) (M' := m_MO_spoilt) (b1 := b1 + 1) (b2 := b2 + 6) (As := []) (a := 547) (st := [.int r]) lk_12_184 (by decide +kernel) rfl (dk_MO_spoilt 62) (Nat.le_of_ble_eq_true rfl) (Or.inl ⟨11, ob546 (Nat.le_trans hN.1 hn1), rfl⟩) hc1 ?_
  rintro _ μ2 ⟨r2, rfl, e2, hK2⟩ hn2
  subst e2
  show G Γ m_LW_law 63 (b1 + 1, b2 + 6) Q 1496 [.ref 31, .ref 32, .ref 547, .ref 573, .int (w ((6 * c : Nat) : Int))] [.int r2, .int r2] μ2
  exact g_icmp_eq (pc' := 1689) (off := 193) (by decide) (by decide +kernel) (fun _ => g_less (next μ2 hK2)) (fun z => absurd rfl z)
set_option maxRecDepth 100000 in
theorem lk_12_185 : LkV 12 185 m_FB_buried 1 := ⟨lc_FB_buried, lwG_in (List.mem_of_getElem? (i := 1107) rfl) rfl, lwG_in (List.mem_of_getElem? (i := 1108) rfl) rfl, lwG_in (List.mem_of_getElem? (i := 1109) rfl) rfl⟩
set_option maxRecDepth 100000 in
theorem lk_12_188 : LkV 12 188 m_MO_buried 1 := ⟨lc_MO_buried, lwG_in (List.mem_of_getElem? (i := 1901) rfl) rfl, lwG_in (List.mem_of_getElem? (i := 1902) rfl) rfl, lwG_in (List.mem_of_getElem? (i := 1903) rfl) rfl⟩
set_option maxRecDepth 100000 in
theorem LW_case38 {Γ : XG} {c b1 b2 : Nat} {Q : Option Value → XM → Prop} {μ : XM} {xs : Nat → Int32} (hf : FM Γ) (hc : c ≤ 511) (hL : 6 * c + 6 ≤ Γ.2.2.2.2.2.2) (h3 : Γ.2.2.2.2.2.2 ≤ 3072) (hK : KS xs μ c) (next : ∀ μ2, KS xs μ2 (c + 1) → G Γ m_LW_law 63 (b1, b2) Q 1689 [.ref 31, .ref 32, .ref 547, .ref 573, .int (w ((6 * c : Nat) : Int))] [] μ2) : G Γ m_LW_law 63 (b1 + 1, b2 + 6) Q 1501 [.ref 31, .ref 32, .ref 547, .ref 573, .int (w ((6 * c : Nat) : Int))] [] μ := by
  have hN := hK.N
  refine run_ok (pc' := 1502) [(.aload_n 1, 0, 0, 0)] _ _ _ _ (by decide +kernel) ?_
  show G Γ m_LW_law 63 (b1 + 1, b2 + 6) Q 1502 [.ref 31, .ref 32, .ref 547, .ref 573, .int (w ((6 * c : Nat) : Int))] [.ref 32] μ
  refine g_arg 1 (by decide +kernel) (by decide) hL h3 hN.2 ?_
  show G Γ m_LW_law 63 (b1 + 1, b2 + 6) Q 1508 [.ref 31, .ref 32, .ref 547, .ref 573, .int (w ((6 * c : Nat) : Int))] [.int (xs (6 * c + 1)), .ref 32] μ
  refine g_invV (M := m_LW_law) (i := 185) (M' := m_FB_buried) (b1 := b1 + 1) (b2 := b2 + 6) (As := [.int (xs (6 * c + 1))]) (a := 32) (st := []) lk_12_185 (by decide +kernel) rfl (dk_FB_buried 62) (Nat.le_of_ble_eq_true rfl) (Or.inl ⟨10, ob32 hN.1, rfl⟩) (S_buried hf (by decide) (by omega) hK (xs (6 * c + 1))) ?_
  rintro _ μ1 ⟨r, rfl, hx1, hc1⟩ hn1
  show G Γ m_LW_law 63 (b1 + 1, b2 + 6) Q 1511 [.ref 31, .ref 32, .ref 547, .ref 573, .int (w ((6 * c : Nat) : Int))] [.int r] μ1
  refine run_ok (pc' := 1512) [(.aload_n 2, 0, 0, 0)] _ _ _ _ (by decide +kernel) ?_
  show G Γ m_LW_law 63 (b1 + 1, b2 + 6) Q 1512 [.ref 31, .ref 32, .ref 547, .ref 573, .int (w ((6 * c : Nat) : Int))] [.ref 547, .int r] μ1
  refine g_arg 1 (by decide +kernel) (by decide) hL h3 hx1 ?_
  show G Γ m_LW_law 63 (b1 + 1, b2 + 6) Q 1518 [.ref 31, .ref 32, .ref 547, .ref 573, .int (w ((6 * c : Nat) : Int))] [.int (xs (6 * c + 1)), .ref 547, .int r] μ1
  refine g_invV (M := m_LW_law) (i := 188) (M' := m_MO_buried) (b1 := b1 + 1) (b2 := b2 + 6) (As := [.int (xs (6 * c + 1))]) (a := 547) (st := [.int r]) lk_12_188 (by decide +kernel) rfl (dk_MO_buried 62) (Nat.le_of_ble_eq_true rfl) (Or.inl ⟨11, ob546 (Nat.le_trans hN.1 hn1), rfl⟩) hc1 ?_
  rintro _ μ2 ⟨r2, rfl, e2, hK2⟩ hn2
  subst e2
  show G Γ m_LW_law 63 (b1 + 1, b2 + 6) Q 1521 [.ref 31, .ref 32, .ref 547, .ref 573, .int (w ((6 * c : Nat) : Int))] [.int r2, .int r2] μ2
  exact g_icmp_eq (pc' := 1689) (off := 168) (by decide) (by decide +kernel) (fun _ => g_less (next μ2 hK2)) (fun z => absurd rfl z)
set_option maxRecDepth 100000 in
theorem lk_12_189 : LkV 12 189 m_FB_goes 1 := ⟨lc_FB_goes, lwG_in (List.mem_of_getElem? (i := 926) rfl) rfl, lwG_in (List.mem_of_getElem? (i := 927) rfl) rfl, lwG_in (List.mem_of_getElem? (i := 928) rfl) rfl⟩
set_option maxRecDepth 100000 in
theorem lk_12_192 : LkV 12 192 m_MO_goes 1 := ⟨lc_MO_goes, lwG_in (List.mem_of_getElem? (i := 1905) rfl) rfl, lwG_in (List.mem_of_getElem? (i := 1906) rfl) rfl, lwG_in (List.mem_of_getElem? (i := 1907) rfl) rfl⟩
set_option maxRecDepth 100000 in
theorem LW_case39 {Γ : XG} {c b1 b2 : Nat} {Q : Option Value → XM → Prop} {μ : XM} {xs : Nat → Int32} (hf : FM Γ) (hc : c ≤ 511) (hL : 6 * c + 6 ≤ Γ.2.2.2.2.2.2) (h3 : Γ.2.2.2.2.2.2 ≤ 3072) (hK : KS xs μ c) (next : ∀ μ2, KS xs μ2 (c + 1) → G Γ m_LW_law 63 (b1, b2) Q 1689 [.ref 31, .ref 32, .ref 547, .ref 573, .int (w ((6 * c : Nat) : Int))] [] μ2) : G Γ m_LW_law 63 (b1 + 1, b2 + 6) Q 1526 [.ref 31, .ref 32, .ref 547, .ref 573, .int (w ((6 * c : Nat) : Int))] [] μ := by
  have hN := hK.N
  refine run_ok (pc' := 1527) [(.aload_n 1, 0, 0, 0)] _ _ _ _ (by decide +kernel) ?_
  show G Γ m_LW_law 63 (b1 + 1, b2 + 6) Q 1527 [.ref 31, .ref 32, .ref 547, .ref 573, .int (w ((6 * c : Nat) : Int))] [.ref 32] μ
  refine g_arg 1 (by decide +kernel) (by decide) hL h3 hN.2 ?_
  show G Γ m_LW_law 63 (b1 + 1, b2 + 6) Q 1533 [.ref 31, .ref 32, .ref 547, .ref 573, .int (w ((6 * c : Nat) : Int))] [.int (xs (6 * c + 1)), .ref 32] μ
  refine g_invV (M := m_LW_law) (i := 189) (M' := m_FB_goes) (b1 := b1 + 1) (b2 := b2 + 6) (As := [.int (xs (6 * c + 1))]) (a := 32) (st := []) lk_12_189 (by decide +kernel) rfl (dk_FB_goes 62) (Nat.le_of_ble_eq_true rfl) (Or.inl ⟨10, ob32 hN.1, rfl⟩) (S_goes hf (by decide) (by omega) hK (xs (6 * c + 1))) ?_
  rintro _ μ1 ⟨r, rfl, hx1, hc1⟩ hn1
  show G Γ m_LW_law 63 (b1 + 1, b2 + 6) Q 1536 [.ref 31, .ref 32, .ref 547, .ref 573, .int (w ((6 * c : Nat) : Int))] [.int r] μ1
  refine run_ok (pc' := 1537) [(.aload_n 2, 0, 0, 0)] _ _ _ _ (by decide +kernel) ?_
  show G Γ m_LW_law 63 (b1 + 1, b2 + 6) Q 1537 [.ref 31, .ref 32, .ref 547, .ref 573, .int (w ((6 * c : Nat) : Int))] [.ref 547, .int r] μ1
  refine g_arg 1 (by decide +kernel) (by decide) hL h3 hx1 ?_
  show G Γ m_LW_law 63 (b1 + 1, b2 + 6) Q 1543 [.ref 31, .ref 32, .ref 547, .ref 573, .int (w ((6 * c : Nat) : Int))] [.int (xs (6 * c + 1)), .ref 547, .int r] μ1
  refine g_invV (M := m_LW_law) (i := 192) (M' := m_MO_goes) (b1 := b1 + 1) (b2 := b2 + 6) (As := [.int (xs (6 * c + 1))]) (a := 547) (st := [.int r]) lk_12_192 (by decide +kernel) rfl (dk_MO_goes 62) (Nat.le_of_ble_eq_true rfl) (Or.inl ⟨11, ob546 (Nat.le_trans hN.1 hn1), rfl⟩) hc1 ?_
  rintro _ μ2 ⟨r2, rfl, e2, hK2⟩ hn2
  subst e2
  show G Γ m_LW_law 63 (b1 + 1, b2 + 6) Q 1546 [.ref 31, .ref 32, .ref 547, .ref 573, .int (w ((6 * c : Nat) : Int))] [.int r2, .int r2] μ2
  exact g_icmp_eq (pc' := 1689) (off := 143) (by decide) (by decide +kernel) (fun _ => g_less (next μ2 hK2)) (fun z => absurd rfl z)
set_option maxRecDepth 100000 in
theorem lk_12_193 : LkV 12 193 m_FB_soonest 1 := ⟨lc_FB_soonest, lwG_in (List.mem_of_getElem? (i := 1111) rfl) rfl, lwG_in (List.mem_of_getElem? (i := 1112) rfl) rfl, lwG_in (List.mem_of_getElem? (i := 1113) rfl) rfl⟩
set_option maxRecDepth 100000 in
theorem lk_12_196 : LkV 12 196 m_MO_soonest 1 := ⟨lc_MO_soonest, lwG_in (List.mem_of_getElem? (i := 1909) rfl) rfl, lwG_in (List.mem_of_getElem? (i := 1910) rfl) rfl, lwG_in (List.mem_of_getElem? (i := 1911) rfl) rfl⟩
set_option maxRecDepth 100000 in
theorem LW_case40 {Γ : XG} {c b1 b2 : Nat} {Q : Option Value → XM → Prop} {μ : XM} {xs : Nat → Int32} (hf : FM Γ) (hc : c ≤ 511) (hL : 6 * c + 6 ≤ Γ.2.2.2.2.2.2) (h3 : Γ.2.2.2.2.2.2 ≤ 3072) (hK : KS xs μ c) (next : ∀ μ2, KS xs μ2 (c + 1) → G Γ m_LW_law 63 (b1, b2) Q 1689 [.ref 31, .ref 32, .ref 547, .ref 573, .int (w ((6 * c : Nat) : Int))] [] μ2) : G Γ m_LW_law 63 (b1 + 1, b2 + 6) Q 1551 [.ref 31, .ref 32, .ref 547, .ref 573, .int (w ((6 * c : Nat) : Int))] [] μ := by
  have hN := hK.N
  refine run_ok (pc' := 1552) [(.aload_n 1, 0, 0, 0)] _ _ _ _ (by decide +kernel) ?_
  show G Γ m_LW_law 63 (b1 + 1, b2 + 6) Q 1552 [.ref 31, .ref 32, .ref 547, .ref 573, .int (w ((6 * c : Nat) : Int))] [.ref 32] μ
  refine g_arg 1 (by decide +kernel) (by decide) hL h3 hN.2 ?_
  show G Γ m_LW_law 63 (b1 + 1, b2 + 6) Q 1558 [.ref 31, .ref 32, .ref 547, .ref 573, .int (w ((6 * c : Nat) : Int))] [.int (xs (6 * c + 1)), .ref 32] μ
  refine g_invV (M := m_LW_law) (i := 193) (M' := m_FB_soonest) (b1 := b1 + 1) (b2 := b2 + 6) (As := [.int (xs (6 * c + 1))]) (a := 32) (st := []) lk_12_193 (by decide +kernel) rfl (dk_FB_soonest 62) (Nat.le_of_ble_eq_true rfl) (Or.inl ⟨10, ob32 hN.1, rfl⟩) (S_soonest hf (by decide) (by omega) hK (xs (6 * c + 1))) ?_
  rintro _ μ1 ⟨r, rfl, hx1, hc1⟩ hn1
  show G Γ m_LW_law 63 (b1 + 1, b2 + 6) Q 1561 [.ref 31, .ref 32, .ref 547, .ref 573, .int (w ((6 * c : Nat) : Int))] [.int r] μ1
  refine run_ok (pc' := 1562) [(.aload_n 2, 0, 0, 0)] _ _ _ _ (by decide +kernel) ?_
  show G Γ m_LW_law 63 (b1 + 1, b2 + 6) Q 1562 [.ref 31, .ref 32, .ref 547, .ref 573, .int (w ((6 * c : Nat) : Int))] [.ref 547, .int r] μ1
  refine g_arg 1 (by decide +kernel) (by decide) hL h3 hx1 ?_
  show G Γ m_LW_law 63 (b1 + 1, b2 + 6) Q 1568 [.ref 31, .ref 32, .ref 547, .ref 573, .int (w ((6 * c : Nat) : Int))] [.int (xs (6 * c + 1)), .ref 547, .int r] μ1
  refine g_invV (M := m_LW_law) (i := 196) (M' := m_MO_soonest) (b1 := b1 + 1) (b2 := b2 + 6) (As := [.int (xs (6 * c + 1))]) (a := 547) (st := [.int r]) lk_12_196 (by decide +kernel) rfl (dk_MO_soonest 62) (Nat.le_of_ble_eq_true rfl) (Or.inl ⟨11, ob546 (Nat.le_trans hN.1 hn1), rfl⟩) hc1 ?_
  rintro _ μ2 ⟨r2, rfl, e2, hK2⟩ hn2
  subst e2
  show G Γ m_LW_law 63 (b1 + 1, b2 + 6) Q 1571 [.ref 31, .ref 32, .ref 547, .ref 573, .int (w ((6 * c : Nat) : Int))] [.int r2, .int r2] μ2
  exact g_icmp_eq (pc' := 1689) (off := 118) (by decide) (by decide +kernel) (fun _ => g_less (next μ2 hK2)) (fun z => absurd rfl z)
set_option maxRecDepth 100000 in
theorem lk_12_197 : LkV 12 197 m_FB_monthly 1 := ⟨lc_FB_monthly, lwG_in (List.mem_of_getElem? (i := 1115) rfl) rfl, lwG_in (List.mem_of_getElem? (i := 1116) rfl) rfl, lwG_in (List.mem_of_getElem? (i := 1117) rfl) rfl⟩
set_option maxRecDepth 100000 in
theorem lk_12_200 : LkV 12 200 m_MO_monthly 1 := ⟨lc_MO_monthly, lwG_in (List.mem_of_getElem? (i := 1913) rfl) rfl, lwG_in (List.mem_of_getElem? (i := 1914) rfl) rfl, lwG_in (List.mem_of_getElem? (i := 1915) rfl) rfl⟩
set_option maxRecDepth 100000 in
theorem LW_case41 {Γ : XG} {c b1 b2 : Nat} {Q : Option Value → XM → Prop} {μ : XM} {xs : Nat → Int32} (hf : FM Γ) (hc : c ≤ 511) (hL : 6 * c + 6 ≤ Γ.2.2.2.2.2.2) (h3 : Γ.2.2.2.2.2.2 ≤ 3072) (hK : KS xs μ c) (next : ∀ μ2, KS xs μ2 (c + 1) → G Γ m_LW_law 63 (b1, b2) Q 1689 [.ref 31, .ref 32, .ref 547, .ref 573, .int (w ((6 * c : Nat) : Int))] [] μ2) : G Γ m_LW_law 63 (b1 + 1, b2 + 6) Q 1576 [.ref 31, .ref 32, .ref 547, .ref 573, .int (w ((6 * c : Nat) : Int))] [] μ := by
  have hN := hK.N
  refine run_ok (pc' := 1577) [(.aload_n 1, 0, 0, 0)] _ _ _ _ (by decide +kernel) ?_
  show G Γ m_LW_law 63 (b1 + 1, b2 + 6) Q 1577 [.ref 31, .ref 32, .ref 547, .ref 573, .int (w ((6 * c : Nat) : Int))] [.ref 32] μ
  refine g_arg 1 (by decide +kernel) (by decide) hL h3 hN.2 ?_
  show G Γ m_LW_law 63 (b1 + 1, b2 + 6) Q 1583 [.ref 31, .ref 32, .ref 547, .ref 573, .int (w ((6 * c : Nat) : Int))] [.int (xs (6 * c + 1)), .ref 32] μ
  refine g_invV (M := m_LW_law) (i := 197) (M' := m_FB_monthly) (b1 := b1 + 1) (b2 := b2 + 6) (As := [.int (xs (6 * c + 1))]) (a := 32) (st := []) lk_12_197 (by decide +kernel) rfl (dk_FB_monthly 62) (Nat.le_of_ble_eq_true rfl) (Or.inl ⟨10, ob32 hN.1, rfl⟩) (S_monthly hf (by decide) (by omega) hK (xs (6 * c + 1))) ?_
  rintro _ μ1 ⟨r, rfl, hx1, hc1⟩ hn1
  show G Γ m_LW_law 63 (b1 + 1, b2 + 6) Q 1586 [.ref 31, .ref 32, .ref 547, .ref 573, .int (w ((6 * c : Nat) : Int))] [.int r] μ1
  refine run_ok (pc' := 1587) [(.aload_n 2, 0, 0, 0)] _ _ _ _ (by decide +kernel) ?_
  show G Γ m_LW_law 63 (b1 + 1, b2 + 6) Q 1587 [.ref 31, .ref 32, .ref 547, .ref 573, .int (w ((6 * c : Nat) : Int))] [.ref 547, .int r] μ1
  refine g_arg 1 (by decide +kernel) (by decide) hL h3 hx1 ?_
  show G Γ m_LW_law 63 (b1 + 1, b2 + 6) Q 1593 [.ref 31, .ref 32, .ref 547, .ref 573, .int (w ((6 * c : Nat) : Int))] [.int (xs (6 * c + 1)), .ref 547, .int r] μ1
  refine g_invV (M := m_LW_law) (i := 200) (M' := m_MO_monthly) (b1 := b1 + 1) (b2 := b2 + 6) (As := [.int (xs (6 * c + 1))]) (a := 547) (st := [.int r]) lk_12_200 (by decide +kernel) rfl (dk_MO_monthly 62) (Nat.le_of_ble_eq_true rfl) (Or.inl ⟨11, ob546 (Nat.le_trans hN.1 hn1), rfl⟩) hc1 ?_
  rintro _ μ2 ⟨r2, rfl, e2, hK2⟩ hn2
  subst e2
  show G Γ m_LW_law 63 (b1 + 1, b2 + 6) Q 1596 [.ref 31, .ref 32, .ref 547, .ref 573, .int (w ((6 * c : Nat) : Int))] [.int r2, .int r2] μ2
  exact g_icmp_eq (pc' := 1689) (off := 93) (by decide) (by decide +kernel) (fun _ => g_less (next μ2 hK2)) (fun z => absurd rfl z)
set_option maxRecDepth 100000 in
theorem lk_12_201 : LkV 12 201 m_FB_make 2 := ⟨lc_FB_make, lwG_in (List.mem_of_getElem? (i := 1000) rfl) rfl, lwG_in (List.mem_of_getElem? (i := 1001) rfl) rfl, lwG_in (List.mem_of_getElem? (i := 1002) rfl) rfl⟩
set_option maxRecDepth 100000 in
theorem lk_12_204 : LkV 12 204 m_MO_make 2 := ⟨lc_MO_make, lwG_in (List.mem_of_getElem? (i := 1918) rfl) rfl, lwG_in (List.mem_of_getElem? (i := 1919) rfl) rfl, lwG_in (List.mem_of_getElem? (i := 1920) rfl) rfl⟩
set_option maxRecDepth 100000 in
theorem LW_case42 {Γ : XG} {c b1 b2 : Nat} {Q : Option Value → XM → Prop} {μ : XM} {xs : Nat → Int32} (hf : FM Γ) (hc : c ≤ 511) (hL : 6 * c + 6 ≤ Γ.2.2.2.2.2.2) (h3 : Γ.2.2.2.2.2.2 ≤ 3072) (hK : KS xs μ c) (next : ∀ μ2, KS xs μ2 (c + 1) → G Γ m_LW_law 63 (b1, b2) Q 1689 [.ref 31, .ref 32, .ref 547, .ref 573, .int (w ((6 * c : Nat) : Int))] [] μ2) : G Γ m_LW_law 63 (b1 + 1, b2 + 6) Q 1601 [.ref 31, .ref 32, .ref 547, .ref 573, .int (w ((6 * c : Nat) : Int))] [] μ := by
  have hN := hK.N
  refine run_ok (pc' := 1602) [(.aload_n 1, 0, 0, 0)] _ _ _ _ (by decide +kernel) ?_
  show G Γ m_LW_law 63 (b1 + 1, b2 + 6) Q 1602 [.ref 31, .ref 32, .ref 547, .ref 573, .int (w ((6 * c : Nat) : Int))] [.ref 32] μ
  refine g_arg 1 (by decide +kernel) (by decide) hL h3 hN.2 ?_
  show G Γ m_LW_law 63 (b1 + 1, b2 + 6) Q 1608 [.ref 31, .ref 32, .ref 547, .ref 573, .int (w ((6 * c : Nat) : Int))] [.int (xs (6 * c + 1)), .ref 32] μ
  refine g_arg 2 (by decide +kernel) (by decide) hL h3 hN.2 ?_
  show G Γ m_LW_law 63 (b1 + 1, b2 + 6) Q 1614 [.ref 31, .ref 32, .ref 547, .ref 573, .int (w ((6 * c : Nat) : Int))] [.int (xs (6 * c + 2)), .int (xs (6 * c + 1)), .ref 32] μ
  refine g_invV (M := m_LW_law) (i := 201) (M' := m_FB_make) (b1 := b1 + 1) (b2 := b2 + 6) (As := [.int (xs (6 * c + 1)), .int (xs (6 * c + 2))]) (a := 32) (st := []) lk_12_201 (by decide +kernel) rfl (dk_FB_make 62) (Nat.le_of_ble_eq_true rfl) (Or.inl ⟨10, ob32 hN.1, rfl⟩) (S_make hf (by decide) (by omega) hK (xs (6 * c + 1)) (xs (6 * c + 2))) ?_
  rintro _ μ1 ⟨r, rfl, hx1, hc1⟩ hn1
  show G Γ m_LW_law 63 (b1 + 1, b2 + 6) Q 1617 [.ref 31, .ref 32, .ref 547, .ref 573, .int (w ((6 * c : Nat) : Int))] [.int r] μ1
  refine run_ok (pc' := 1618) [(.aload_n 2, 0, 0, 0)] _ _ _ _ (by decide +kernel) ?_
  show G Γ m_LW_law 63 (b1 + 1, b2 + 6) Q 1618 [.ref 31, .ref 32, .ref 547, .ref 573, .int (w ((6 * c : Nat) : Int))] [.ref 547, .int r] μ1
  refine g_arg 1 (by decide +kernel) (by decide) hL h3 hx1 ?_
  show G Γ m_LW_law 63 (b1 + 1, b2 + 6) Q 1624 [.ref 31, .ref 32, .ref 547, .ref 573, .int (w ((6 * c : Nat) : Int))] [.int (xs (6 * c + 1)), .ref 547, .int r] μ1
  refine g_arg 2 (by decide +kernel) (by decide) hL h3 hx1 ?_
  show G Γ m_LW_law 63 (b1 + 1, b2 + 6) Q 1630 [.ref 31, .ref 32, .ref 547, .ref 573, .int (w ((6 * c : Nat) : Int))] [.int (xs (6 * c + 2)), .int (xs (6 * c + 1)), .ref 547, .int r] μ1
  refine g_invV (M := m_LW_law) (i := 204) (M' := m_MO_make) (b1 := b1 + 1) (b2 := b2 + 6) (As := [.int (xs (6 * c + 1)), .int (xs (6 * c + 2))]) (a := 547) (st := [.int r]) lk_12_204 (by decide +kernel) rfl (dk_MO_make 62) (Nat.le_of_ble_eq_true rfl) (Or.inl ⟨11, ob546 (Nat.le_trans hN.1 hn1), rfl⟩) hc1 ?_
  rintro _ μ2 ⟨r2, rfl, e2, hK2⟩ hn2
  subst e2
  show G Γ m_LW_law 63 (b1 + 1, b2 + 6) Q 1633 [.ref 31, .ref 32, .ref 547, .ref 573, .int (w ((6 * c : Nat) : Int))] [.int r2, .int r2] μ2
  exact g_icmp_eq (pc' := 1689) (off := 56) (by decide) (by decide +kernel) (fun _ => g_less (next μ2 hK2)) (fun z => absurd rfl z)
set_option maxRecDepth 100000 in
theorem lk_12_205 : LkV 12 205 m_FB_image 0 := ⟨lc_FB_image, lwG_in (List.mem_of_getElem? (i := 847) rfl) rfl, lwG_in (List.mem_of_getElem? (i := 848) rfl) rfl, lwG_in (List.mem_of_getElem? (i := 849) rfl) rfl⟩
set_option maxRecDepth 100000 in
theorem lk_12_208 : LkV 12 208 m_MO_image 0 := ⟨lc_MO_image, lwG_in (List.mem_of_getElem? (i := 1923) rfl) rfl, lwG_in (List.mem_of_getElem? (i := 1924) rfl) rfl, lwG_in (List.mem_of_getElem? (i := 1925) rfl) rfl⟩
set_option maxRecDepth 100000 in
theorem LW_case43 {Γ : XG} {c b1 b2 : Nat} {Q : Option Value → XM → Prop} {μ : XM} {xs : Nat → Int32} (hf : FM Γ) (hc : c ≤ 511) (hL : 6 * c + 6 ≤ Γ.2.2.2.2.2.2) (h3 : Γ.2.2.2.2.2.2 ≤ 3072) (hK : KS xs μ c) (next : ∀ μ2, KS xs μ2 (c + 1) → G Γ m_LW_law 63 (b1, b2) Q 1689 [.ref 31, .ref 32, .ref 547, .ref 573, .int (w ((6 * c : Nat) : Int))] [] μ2) : G Γ m_LW_law 63 (b1 + 1, b2 + 6) Q 1638 [.ref 31, .ref 32, .ref 547, .ref 573, .int (w ((6 * c : Nat) : Int))] [] μ := by
  have hN := hK.N
  refine run_ok (pc' := 1639) [(.aload_n 1, 0, 0, 0)] _ _ _ _ (by decide +kernel) ?_
  show G Γ m_LW_law 63 (b1 + 1, b2 + 6) Q 1639 [.ref 31, .ref 32, .ref 547, .ref 573, .int (w ((6 * c : Nat) : Int))] [.ref 32] μ
  refine g_invV (M := m_LW_law) (i := 205) (M' := m_FB_image) (b1 := b1 + 1) (b2 := b2 + 6) (As := []) (a := 32) (st := []) lk_12_205 (by decide +kernel) rfl (dk_FB_image 62) (Nat.le_of_ble_eq_true rfl) (Or.inl ⟨10, ob32 hN.1, rfl⟩) (S_image hf (by decide) (by omega) hK ) ?_
  rintro _ μ1 ⟨r, rfl, hx1, hc1⟩ hn1
  show G Γ m_LW_law 63 (b1 + 1, b2 + 6) Q 1642 [.ref 31, .ref 32, .ref 547, .ref 573, .int (w ((6 * c : Nat) : Int))] [.int r] μ1
  refine run_ok (pc' := 1643) [(.aload_n 2, 0, 0, 0)] _ _ _ _ (by decide +kernel) ?_
  show G Γ m_LW_law 63 (b1 + 1, b2 + 6) Q 1643 [.ref 31, .ref 32, .ref 547, .ref 573, .int (w ((6 * c : Nat) : Int))] [.ref 547, .int r] μ1
  refine g_invV (M := m_LW_law) (i := 208) (M' := m_MO_image) (b1 := b1 + 1) (b2 := b2 + 6) (As := []) (a := 547) (st := [.int r]) lk_12_208 (by decide +kernel) rfl (dk_MO_image 62) (Nat.le_of_ble_eq_true rfl) (Or.inl ⟨11, ob546 (Nat.le_trans hN.1 hn1), rfl⟩) hc1 ?_
  rintro _ μ2 ⟨r2, rfl, e2, hK2⟩ hn2
  subst e2
  show G Γ m_LW_law 63 (b1 + 1, b2 + 6) Q 1646 [.ref 31, .ref 32, .ref 547, .ref 573, .int (w ((6 * c : Nat) : Int))] [.int r2, .int r2] μ2
  exact g_icmp_eq (pc' := 1689) (off := 43) (by decide) (by decide +kernel) (fun _ => g_less (next μ2 hK2)) (fun z => absurd rfl z)
set_option maxRecDepth 100000 in
theorem lk_12_209 : LkV 12 209 m_FB_back 0 := ⟨lc_FB_back, lwG_in (List.mem_of_getElem? (i := 861) rfl) rfl, lwG_in (List.mem_of_getElem? (i := 862) rfl) rfl, lwG_in (List.mem_of_getElem? (i := 863) rfl) rfl⟩
set_option maxRecDepth 100000 in
theorem lk_12_212 : LkV 12 212 m_MO_back 0 := ⟨lc_MO_back, lwG_in (List.mem_of_getElem? (i := 1927) rfl) rfl, lwG_in (List.mem_of_getElem? (i := 1928) rfl) rfl, lwG_in (List.mem_of_getElem? (i := 1929) rfl) rfl⟩
set_option maxRecDepth 100000 in
theorem LW_case44 {Γ : XG} {c b1 b2 : Nat} {Q : Option Value → XM → Prop} {μ : XM} {xs : Nat → Int32} (hf : FM Γ) (hc : c ≤ 511) (hL : 6 * c + 6 ≤ Γ.2.2.2.2.2.2) (h3 : Γ.2.2.2.2.2.2 ≤ 3072) (hK : KS xs μ c) (next : ∀ μ2, KS xs μ2 (c + 1) → G Γ m_LW_law 63 (b1, b2) Q 1689 [.ref 31, .ref 32, .ref 547, .ref 573, .int (w ((6 * c : Nat) : Int))] [] μ2) : G Γ m_LW_law 63 (b1 + 1, b2 + 6) Q 1651 [.ref 31, .ref 32, .ref 547, .ref 573, .int (w ((6 * c : Nat) : Int))] [] μ := by
  have hN := hK.N
  refine run_ok (pc' := 1652) [(.aload_n 1, 0, 0, 0)] _ _ _ _ (by decide +kernel) ?_
  show G Γ m_LW_law 63 (b1 + 1, b2 + 6) Q 1652 [.ref 31, .ref 32, .ref 547, .ref 573, .int (w ((6 * c : Nat) : Int))] [.ref 32] μ
  refine g_invV (M := m_LW_law) (i := 209) (M' := m_FB_back) (b1 := b1 + 1) (b2 := b2 + 6) (As := []) (a := 32) (st := []) lk_12_209 (by decide +kernel) rfl (dk_FB_back 62) (Nat.le_of_ble_eq_true rfl) (Or.inl ⟨10, ob32 hN.1, rfl⟩) (S_back hf (by decide) (by omega) hK ) ?_
  rintro _ μ1 ⟨r, rfl, hx1, hc1⟩ hn1
  show G Γ m_LW_law 63 (b1 + 1, b2 + 6) Q 1655 [.ref 31, .ref 32, .ref 547, .ref 573, .int (w ((6 * c : Nat) : Int))] [.int r] μ1
  refine run_ok (pc' := 1656) [(.aload_n 2, 0, 0, 0)] _ _ _ _ (by decide +kernel) ?_
  show G Γ m_LW_law 63 (b1 + 1, b2 + 6) Q 1656 [.ref 31, .ref 32, .ref 547, .ref 573, .int (w ((6 * c : Nat) : Int))] [.ref 547, .int r] μ1
  refine g_invV (M := m_LW_law) (i := 212) (M' := m_MO_back) (b1 := b1 + 1) (b2 := b2 + 6) (As := []) (a := 547) (st := [.int r]) lk_12_212 (by decide +kernel) rfl (dk_MO_back 62) (Nat.le_of_ble_eq_true rfl) (Or.inl ⟨11, ob546 (Nat.le_trans hN.1 hn1), rfl⟩) hc1 ?_
  rintro _ μ2 ⟨r2, rfl, e2, hK2⟩ hn2
  subst e2
  show G Γ m_LW_law 63 (b1 + 1, b2 + 6) Q 1659 [.ref 31, .ref 32, .ref 547, .ref 573, .int (w ((6 * c : Nat) : Int))] [.int r2, .int r2] μ2
  exact g_icmp_eq (pc' := 1689) (off := 30) (by decide) (by decide +kernel) (fun _ => g_less (next μ2 hK2)) (fun z => absurd rfl z)
set_option maxRecDepth 100000 in
theorem lk_12_213 : LkV 12 213 m_FB_count 1 := ⟨lc_FB_count, lwG_in (List.mem_of_getElem? (i := 1119) rfl) rfl, lwG_in (List.mem_of_getElem? (i := 1120) rfl) rfl, lwG_in (List.mem_of_getElem? (i := 1121) rfl) rfl⟩
set_option maxRecDepth 100000 in
theorem lk_12_216 : LkV 12 216 m_MO_count 1 := ⟨lc_MO_count, lwG_in (List.mem_of_getElem? (i := 1931) rfl) rfl, lwG_in (List.mem_of_getElem? (i := 1932) rfl) rfl, lwG_in (List.mem_of_getElem? (i := 1933) rfl) rfl⟩
set_option maxRecDepth 100000 in
theorem LW_case45 {Γ : XG} {c b1 b2 : Nat} {Q : Option Value → XM → Prop} {μ : XM} {xs : Nat → Int32} (hf : FM Γ) (hc : c ≤ 511) (hL : 6 * c + 6 ≤ Γ.2.2.2.2.2.2) (h3 : Γ.2.2.2.2.2.2 ≤ 3072) (hK : KS xs μ c) (next : ∀ μ2, KS xs μ2 (c + 1) → G Γ m_LW_law 63 (b1, b2) Q 1689 [.ref 31, .ref 32, .ref 547, .ref 573, .int (w ((6 * c : Nat) : Int))] [] μ2) : G Γ m_LW_law 63 (b1 + 1, b2 + 6) Q 1664 [.ref 31, .ref 32, .ref 547, .ref 573, .int (w ((6 * c : Nat) : Int))] [] μ := by
  have hN := hK.N
  refine run_ok (pc' := 1665) [(.aload_n 1, 0, 0, 0)] _ _ _ _ (by decide +kernel) ?_
  show G Γ m_LW_law 63 (b1 + 1, b2 + 6) Q 1665 [.ref 31, .ref 32, .ref 547, .ref 573, .int (w ((6 * c : Nat) : Int))] [.ref 32] μ
  refine g_arg 1 (by decide +kernel) (by decide) hL h3 hN.2 ?_
  show G Γ m_LW_law 63 (b1 + 1, b2 + 6) Q 1671 [.ref 31, .ref 32, .ref 547, .ref 573, .int (w ((6 * c : Nat) : Int))] [.int (xs (6 * c + 1)), .ref 32] μ
  refine g_invV (M := m_LW_law) (i := 213) (M' := m_FB_count) (b1 := b1 + 1) (b2 := b2 + 6) (As := [.int (xs (6 * c + 1))]) (a := 32) (st := []) lk_12_213 (by decide +kernel) rfl (dk_FB_count 62) (Nat.le_of_ble_eq_true rfl) (Or.inl ⟨10, ob32 hN.1, rfl⟩) (S_count hf (by decide) (by omega) hK (xs (6 * c + 1))) ?_
  rintro _ μ1 ⟨r, rfl, hx1, hc1⟩ hn1
  show G Γ m_LW_law 63 (b1 + 1, b2 + 6) Q 1674 [.ref 31, .ref 32, .ref 547, .ref 573, .int (w ((6 * c : Nat) : Int))] [.int r] μ1
  refine run_ok (pc' := 1675) [(.aload_n 2, 0, 0, 0)] _ _ _ _ (by decide +kernel) ?_
  show G Γ m_LW_law 63 (b1 + 1, b2 + 6) Q 1675 [.ref 31, .ref 32, .ref 547, .ref 573, .int (w ((6 * c : Nat) : Int))] [.ref 547, .int r] μ1
  refine g_arg 1 (by decide +kernel) (by decide) hL h3 hx1 ?_
  show G Γ m_LW_law 63 (b1 + 1, b2 + 6) Q 1681 [.ref 31, .ref 32, .ref 547, .ref 573, .int (w ((6 * c : Nat) : Int))] [.int (xs (6 * c + 1)), .ref 547, .int r] μ1
  refine g_invV (M := m_LW_law) (i := 216) (M' := m_MO_count) (b1 := b1 + 1) (b2 := b2 + 6) (As := [.int (xs (6 * c + 1))]) (a := 547) (st := [.int r]) lk_12_216 (by decide +kernel) rfl (dk_MO_count 62) (Nat.le_of_ble_eq_true rfl) (Or.inl ⟨11, ob546 (Nat.le_trans hN.1 hn1), rfl⟩) hc1 ?_
  rintro _ μ2 ⟨r2, rfl, e2, hK2⟩ hn2
  subst e2
  show G Γ m_LW_law 63 (b1 + 1, b2 + 6) Q 1684 [.ref 31, .ref 32, .ref 547, .ref 573, .int (w ((6 * c : Nat) : Int))] [.int r2, .int r2] μ2
  exact g_icmp_eq (pc' := 1689) (off := 5) (by decide) (by decide +kernel) (fun _ => g_less (next μ2 hK2)) (fun z => absurd rfl z)
