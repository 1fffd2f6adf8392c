/-! THE LAW'S START (written by wip/tools/genbs.py) -/
set_option maxRecDepth 100000 in
theorem li_12_15 : LkI 12 15 m_FB_init 0 := ⟨lc_FB_init, lwG_in (List.mem_of_getElem? (i := 138) rfl) rfl, lwG_in (List.mem_of_getElem? (i := 139) rfl) rfl, rfl, rfl⟩
set_option maxRecDepth 100000 in
theorem li_12_18 : LkI 12 18 m_MO_init 0 := ⟨lc_MO_init, lwG_in (List.mem_of_getElem? (i := 1200) rfl) rfl, lwG_in (List.mem_of_getElem? (i := 1201) rfl) rfl, rfl, rfl⟩
theorem fb_hi {R : RR} {c j : Nat} (h : 547 ≤ c) : vR (fbR R) 5 c j = R c j := by
  rw [vR_ne 5 (by omega)]
  simp (disch := omega) only [fbR, up2_out, hR_ne, pR_ne, mgR_ne, acR_ne]
theorem fbI_ne {I : RI4} {c j : Nat} (h : ¬ (c = 32 ∨ c = 33)) : fbI I c j = I c j := by
  unfold fbI
  rw [up2_out (by omega), up2_out (by omega), up2_out (by omega)]
theorem moI_ne {I : RI4} {c j : Nat} (h : ¬ c = 547) : moI I c j = I c j := by
  unfold moI
  rw [up2_out (by omega), up2_out (by omega)]
set_option maxRecDepth 100000 in
theorem LW_start {Γ : XG} {Q : Option Value → XM → Prop} {I : RI4} {L : RJ} {R : RR} {xs : Nat → Int32} (hf : FM Γ) (ht : Γ.1.stackTraces = false) (h3 : Γ.2.2.2.2.2.2 ≤ 3072) (hQ : ∀ μ, Q (some (.int (w 1))) μ) (hz : Zr (I, L, R, 32) 32) (hST : ∀ a j v, sT a j = some v → I a j = w v) (hSS : ∀ j, j < 6 → ∀ i, i < (sS j).length → I (20 + j) i = w ((sS j).getD i 0)) (hx : ∀ j, I 31 j = xs j) : G Γ m_LW_law 63 (1054, 39193) Q 0 [.ref 31] [] (I, L, R, 32) := by
  refine g_new (ci := 10) (n := 19) (b1 := 1053) (b2 := 39174) rfl (lwG_in (List.mem_of_getElem? (i := 136) rfl) rfl) (lwG_in (List.mem_of_getElem? (i := 137) rfl) rfl) (lwG_in (List.mem_of_getElem? (i := 113) rfl) rfl) (by decide) (show shp 32 = _ from rfl) (hz 32 (by omega)) (by decide +kernel) ?_
  show G Γ m_LW_law 63 (1053, 39174) Q 3 [.ref 31] [.ref 32] (I, L, R, 33)
  refine run_ok (pc' := 4) [(.dup, 0, 0, 0)] _ _ _ _ (by decide +kernel) ?_
  show G Γ m_LW_law 63 (1053, 39174) Q 4 [.ref 31] [.ref 32, .ref 32] (I, L, R, 33)
  refine g_invI (M := m_LW_law) (M' := m_FB_init) (i := 15) (As := []) (a := 32) (st := [.ref 32]) (b1 := 539) (b2 := 33509) li_12_15 (by decide +kernel) rfl (dk_FB_init 62) (Nat.le_of_ble_eq_true rfl) (C_FB_init (by omega) (fun q hq => hz q (by omega))) ?_
  rintro _ _ ⟨rfl, rfl⟩ -
  show G Γ m_LW_law 63 (539, 33509) Q 7 [.ref 31] [.ref 32] (fbI I, L, vR (fbR R) 5, 547)
  have z1 : Zr (fbI I, L, vR (fbR R) 5, 547) 547 := fun q hq j => by
    obtain ⟨a1, a2, a3⟩ := hz q (by omega) j
    exact ⟨(fbI_ne (by omega)).trans a1, a2, (fb_hi hq).trans a3⟩
  refine run_ok (pc' := 8) [(.astore_n 1, 0, 0, 0)] _ _ _ _ (by decide +kernel) ?_
  show G Γ m_LW_law 63 (539, 33509) Q 8 [.ref 31, .ref 32] [] (fbI I, L, vR (fbR R) 5, 547)
  refine g_new (ci := 11) (n := 56) (b1 := 538) (b2 := 33453) rfl (lwG_in (List.mem_of_getElem? (i := 1198) rfl) rfl) (lwG_in (List.mem_of_getElem? (i := 1199) rfl) rfl) (lwG_in (List.mem_of_getElem? (i := 124) rfl) rfl) (by decide) (show shp 547 = _ from rfl) (z1 547 (by omega)) (by decide +kernel) ?_
  show G Γ m_LW_law 63 (538, 33453) Q 11 [.ref 31, .ref 32] [.ref 547] (fbI I, L, vR (fbR R) 5, 548)
  refine run_ok (pc' := 12) [(.dup, 0, 0, 0)] _ _ _ _ (by decide +kernel) ?_
  show G Γ m_LW_law 63 (538, 33453) Q 12 [.ref 31, .ref 32] [.ref 547, .ref 547] (fbI I, L, vR (fbR R) 5, 548)
  refine g_invI (M := m_LW_law) (M' := m_MO_init) (i := 18) (As := []) (a := 547) (st := [.ref 547]) (b1 := 513) (b2 := 3073) li_12_18 (by decide +kernel) rfl (dk_MO_init 62) (Nat.le_of_ble_eq_true rfl) (C_MO_init (by omega) (fun q hq => z1 q (by omega))) ?_
  rintro _ _ ⟨rfl, rfl⟩ -
  show G Γ m_LW_law 63 (513, 3073) Q 15 [.ref 31, .ref 32] [.ref 547] (moI (fbI I), L, moR (vR (fbR R) 5), 573)
  have z2 : Zr (moI (fbI I), L, moR (vR (fbR R) 5), 573) 573 := fun q hq j => by
    obtain ⟨a1, a2, a3⟩ := z1 q (by omega) j
    exact ⟨(moI_ne (by omega)).trans a1, a2, (moR_ne (by omega)).trans a3⟩
  refine run_ok (pc' := 17) [(.astore_n 2, 0, 0, 0), (.iconst 1, 0, 0, 0)] _ _ _ _ (by decide +kernel) ?_
  show G Γ m_LW_law 63 (513, 3073) Q 17 [.ref 31, .ref 32, .ref 547] [.int (w 1)] (moI (fbI I), L, moR (vR (fbR R) 5), 573)
  refine g_newa (atype := .long) (t := 4) (n := 1) (b1 := 512) (b2 := 3072) rfl (by decide) acl_4 (show shp 573 = _ from rfl) (z2 573 (by omega)) (by decide +kernel) ?_
  show G Γ m_LW_law 63 (512, 3072) Q 19 [.ref 31, .ref 32, .ref 547] [.ref 573] (moI (fbI I), L, moR (vR (fbR R) 5), 574)
  refine run_ok (pc' := 23) [(.astore_n 3, 0, 0, 0), (.iconst 0, 0, 0, 0), (.istore 4, 0, 0, 0)] _ _ _ _ (by decide +kernel) ?_
  exact LW_loop hf ht h3 hQ 512 0 _ rfl (ks_start (fun c hc j => (hz c hc j).1) (fun c hc j => (hz c hc j).2.1) hST hSS hx)
