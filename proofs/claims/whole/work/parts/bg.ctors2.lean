/-! CONSTRUCTORS, the great ones (written by wip/tools/genbe.py) -/
set_option maxRecDepth 100000 in
theorem l_0_21 : LkIN 0 21 m_Pi_init 0 := ⟨lc_Pi_init, ⟨_, List.mem_of_getElem? (i := 253) rfl⟩, lwG_in (List.mem_of_getElem? (i := 184) rfl) rfl, rfl, rfl⟩
def m_Ac_init : MM := (0, ⟨"FrostBox$Acts", "<init>", "()V"⟩, prog_2_method_1_code, 2, none, 202, 1600)
theorem ok_Ac_init : mOK m_Ac_init := ⟨by decide +kernel, by decide +kernel⟩
theorem dk_Ac_init (d : Nat) : dOK (d + 1) d m_Ac_init := ⟨Nat.le_refl _, by show 19 + 2 + 40 * d ≤ 40 * (d + 1); omega⟩
set_option maxRecDepth 100000 in
theorem lc_Ac_init : LkC m_Ac_init 0 := ⟨lwG_in (List.mem_of_getElem? (i := 249) rfl) rfl, lwG_in (List.mem_of_getElem? (i := 117) rfl) rfl, by decide +kernel, by decide +kernel, by decide +kernel⟩
set_option maxRecDepth 100000 in
theorem Ac_body {Γ : XG} {d : Nat} {Q : Option Value → XM → Prop} {I : RI4} {L : RJ} {R : RR} {i b1 b2 : Nat} (hd : 2 ≤ d + 1) (hi : i < 40) (h0 : R 77 0 = some 78) (hz : Zr (I, L, R, 80 + 5 * i) (80 + 5 * i)) (h : G Γ m_Ac_init (d + 1) (b1, b2) Q 23 [.ref 77, .int (w (i : Int) + w 1)] [] (I, L, up2 (pR (80 + 5 * i) R) 78 i (some (80 + 5 * i)), 80 + 5 * i + 5)) : G Γ m_Ac_init (d + 1) (b1 + 5, b2 + 38) Q 29 [.ref 77, .int (w (i : Int))] [] (I, L, R, 80 + 5 * i) := by
  refine run_ok (pc' := 34) [(.aload_n 0, 0, 0, 0), (.getfield 11, 0, 0, 2), (.iload_n 1, 0, 0, 0)] _ _ _ _ (by decide +kernel) ?_
  show _ ∧ (∃ _, _ ∧ (_))
  refine ⟨⟨rfl, show 77 < 80 + 5 * i by omega⟩, 78, h0, ?_⟩
  show G Γ m_Ac_init (d + 1) (b1 + 5, b2 + 38) Q 34 [.ref 77, .int (w (i : Int))] [.int (w (i : Int)), .ref 78] (I, L, R, 80 + 5 * i)
  refine g_new (ci := 6) (n := 6) (b1 := b1 + 4) (b2 := b2 + 32) rfl (lwG_in (List.mem_of_getElem? (i := 251) rfl) rfl) (lwG_in (List.mem_of_getElem? (i := 182) rfl) rfl) (lwG_in (List.mem_of_getElem? (i := 116) rfl) rfl) (by decide) (show shp (80 + 5 * i) = _ from (PS_at (by omega)).2.2.1) (hz (80 + 5 * i) (by omega)) (by decide +kernel) ?_
  show G Γ m_Ac_init (d + 1) (b1 + 4, b2 + 32) Q 37 [.ref 77, .int (w (i : Int))] [.ref (80 + 5 * i), .int (w (i : Int)), .ref 78] (I, L, R, 80 + 5 * i + 1)
  refine run_ok (pc' := 38) [(.dup, 0, 0, 0)] _ _ _ _ (by decide +kernel) ?_
  show G Γ m_Ac_init (d + 1) (b1 + 4, b2 + 32) Q 38 [.ref 77, .int (w (i : Int))] [.ref (80 + 5 * i), .ref (80 + 5 * i), .int (w (i : Int)), .ref 78] (I, L, R, 80 + 5 * i + 1)
  refine g_invIN (M := m_Ac_init) (i := 21) (As := []) (b1 := b1) (b2 := b2) l_0_21 (by decide +kernel) rfl (dk_Pi_init _) (Nat.le_of_ble_eq_true rfl) (C_Pi_init (by omega) (PS_at (by omega)) (fun q hq => hz q (Nat.le_trans (by omega) hq))) ?_
  rintro _ _ ⟨rfl, rfl⟩ -
  show G Γ m_Ac_init (d + 1) (b1, b2) Q 41 [.ref 77, .int (w (i : Int))] [.ref (80 + 5 * i), .int (w (i : Int)), .ref 78] (I, L, (pR (80 + 5 * i) R), 80 + 5 * i + 5)
  obtain ⟨R1, eR1⟩ : ∃ r, r = pR (80 + 5 * i) R := ⟨_, rfl⟩
  rw [← eR1]
  have zR1 : Zr (I, L, R1, 80 + 5 * i + 5) (80 + 5 * i + 5) := by rw [eR1]; exact Zr.f (fun q hq j => pR_ne (by omega)) (by omega) hz
  refine g_aast (ci := 6) (t := 7) (n := 40) rfl rfl ⟨rfl, show 78 < 80 + 5 * i + 5 by omega⟩ (by omega) (w_in (by omega) (by omega) (by omega)) ⟨(PS_at (by omega)).2.2.1, show 80 + 5 * i < 80 + 5 * i + 5 by omega⟩ (by decide +kernel) ?_
  rw [show (w (i : Int)).toNatClampNeg = i from w_cln (by omega)]
  show G Γ m_Ac_init (d + 1) (b1, b2) Q 42 [.ref 77, .int (w (i : Int))] [] (I, L, (up2 R1 78 i (some (80 + 5 * i))), 80 + 5 * i + 5)
  obtain ⟨R2, eR2⟩ : ∃ r, r = up2 R1 78 i (some (80 + 5 * i)) := ⟨_, rfl⟩
  rw [← eR2]
  have zR2 : Zr (I, L, R2, 80 + 5 * i + 5) (80 + 5 * i + 5) := by rw [eR2]; exact Zr.f (fun q hq j => up2_out (by omega)) (by omega) zR1
  refine run_ok (pc' := 23) [(.iinc 1 1, 0, 0, 0), (.goto (-22), 0, 0, 0)] _ _ _ _ (by decide +kernel) ?_
  show G Γ m_Ac_init (d + 1) (b1, b2) Q 23 [.ref 77, .int ((w (i : Int)) + w 1)] [] (I, L, R2, 80 + 5 * i + 5)
  rw [eR2, eR1]
  exact h
theorem Ac_loop {Γ : XG} {d : Nat} {Q : Option Value → XM → Prop} {I : RI4} {L : RJ} {R : RR} (hd : 2 ≤ d + 1) (h0 : R 77 0 = some 78) : ∀ (f i : Nat), i + f = 40 → Zr (I, L, acR R i, 80 + 5 * i) (80 + 5 * i) → Q none (I, L, acR R 40, 280) → G Γ m_Ac_init (d + 1) (5 * f, 38 * f) Q 23 [.ref 77, .int (w (i : Int))] [] (I, L, acR R i, 80 + 5 * i)
  | 0, i, e, hz, h => by
    refine run_ok (pc' := 26) [(.iload_n 1, 0, 0, 0), (.bipush 40, 0, 0, 0)] _ _ _ _ (by decide +kernel) ?_
    refine g_icmp_ge (x := w (i : Int)) (y := w 40) (pc' := 48) (off := 22) (by decide) (by decide +kernel) (fun _ => g_retv (by decide +kernel) rfl ?_) (fun q => ?_)
    · have e2 : i = 40 := by omega
      subst e2
      exact h
    · rw [w_lt (by omega) (by omega) (by omega) (by omega)] at q
      omega
  | f + 1, i, e, hz, h => by
    refine run_ok (pc' := 26) [(.iload_n 1, 0, 0, 0), (.bipush 40, 0, 0, 0)] _ _ _ _ (by decide +kernel) ?_
    refine g_icmp_ge (x := w (i : Int)) (y := w 40) (pc' := 48) (off := 22) (by decide) (by decide +kernel) (fun q => ?_) (fun q => ?_)
    · rw [w_lt (by omega) (by omega) (by omega) (by omega)] at q
      omega
    · refine Ac_body hd (by omega) (by rw [acR_ne i (by omega)]; exact h0) hz ?_
      have hz2 : Zr (I, L, acR R (i + 1), 80 + 5 * (i + 1)) (80 + 5 * (i + 1)) := Zr.f (fun q hq j => by show up2 _ _ _ _ _ _ = _; rw [up2_out (by omega), pR_ne (by omega)]) (by omega) hz
      have q2 := Ac_loop (Γ := Γ) (d := d) hd h0 f (i + 1) (by omega) hz2 h
      rw [show ((i + 1 : Nat) : Int) = (i : Int) + 1 by omega, ← w_add] at q2
      exact q2
set_option maxRecDepth 100000 in
theorem C_Ac_init {Γ : XG} {d : Nat} {I : RI4} {L : RJ} {R : RR} (hd : 2 ≤ d) (hz : Zr (I, L, R, 78) (78)) : Call Γ m_Ac_init d [.ref 77] (I, L, R, 78) (KV (fun μ' => μ' = (I, L, acR (up2 (up2 R 77 0 (some 78)) 77 1 (some 79)) 40, 280))) := by
  obtain ⟨d, rfl⟩ : ∃ e, d = e + 1 := ⟨d - 1, by omega⟩
  refine Call.of ok_Ac_init (Nat.le_of_ble_eq_true rfl) ?_
  show G Γ m_Ac_init (d + 1) (202, 1600) _ 0 [.ref 77] [] (I, L, R, 78)
  refine run_ok (pc' := 1) [(.aload_n 0, 0, 0, 0)] _ _ _ _ (by decide +kernel) ?_
  show G Γ m_Ac_init (d + 1) (202, 1600) _ 1 [.ref 77] [.ref 77] (I, L, R, 78)
  refine g_objInit (lwG_in (List.mem_of_getElem? (i := 250) rfl) rfl) hwO (Nat.le_of_ble_eq_true rfl) (by decide +kernel) ?_
  show G Γ m_Ac_init (d + 1) (202, 1600) _ 4 [.ref 77] [] (I, L, R, 78)
  refine run_ok (pc' := 7) [(.aload_n 0, 0, 0, 0), (.bipush 40, 0, 0, 0)] _ _ _ _ (by decide +kernel) ?_
  show G Γ m_Ac_init (d + 1) (202, 1600) _ 7 [.ref 77] [.int (w 40), .ref 77] (I, L, R, 78)
  refine g_anew (t := 7) (n := 40) (b1 := 201) (b2 := 1560) rfl (lwG_in (List.mem_of_getElem? (i := 251) rfl) rfl) (by decide) (show shp (78) = _ from rfl) (hz (78) (by omega)) (by decide +kernel) ?_
  show G Γ m_Ac_init (d + 1) (201, 1560) _ 10 [.ref 77] [.ref 78, .ref 77] (I, L, R, 79)
  refine g_pf (i := 11) (k := 0) (ci := 0) (by decide +kernel) ⟨rfl, show 77 < 79 by omega⟩ ?_
  show G Γ m_Ac_init (d + 1) (201, 1560) _ 13 [.ref 77] [] (I, L, (up2 R 77 0 (some 78)), 79)
  obtain ⟨R1, eR1⟩ : ∃ r, r = up2 R 77 0 (some 78) := ⟨_, rfl⟩
  rw [← eR1]
  have zR1 : Zr (I, L, R1, 79) (79) := by rw [eR1]; exact Zr.f (fun q hq j => up2_out (by omega)) (by omega) hz
  refine run_ok (pc' := 16) [(.aload_n 0, 0, 0, 0), (.bipush 40, 0, 0, 0)] _ _ _ _ (by decide +kernel) ?_
  show G Γ m_Ac_init (d + 1) (201, 1560) _ 16 [.ref 77] [.int (w 40), .ref 77] (I, L, R1, 79)
  refine g_newa (atype := .int) (t := 0) (n := 40) (b1 := 200) (b2 := 1520) rfl (by decide) acl_0 (show shp (79) = _ from rfl) (zR1 (79) (by omega)) (by decide +kernel) ?_
  show G Γ m_Ac_init (d + 1) (200, 1520) _ 18 [.ref 77] [.ref 79, .ref 77] (I, L, R1, 80)
  refine g_pf (i := 17) (k := 1) (ci := 0) (by decide +kernel) ⟨rfl, show 77 < 80 by omega⟩ ?_
  show G Γ m_Ac_init (d + 1) (200, 1520) _ 21 [.ref 77] [] (I, L, (up2 R1 77 1 (some 79)), 80)
  obtain ⟨R2, eR2⟩ : ∃ r, r = up2 R1 77 1 (some 79) := ⟨_, rfl⟩
  rw [← eR2]
  have zR2 : Zr (I, L, R2, 80) (80) := by rw [eR2]; exact Zr.f (fun q hq j => up2_out (by omega)) (by omega) zR1
  refine run_ok (pc' := 23) [(.iconst 0, 0, 0, 0), (.istore_n 1, 0, 0, 0)] _ _ _ _ (by decide +kernel) ?_
  show G Γ m_Ac_init (d + 1) (200, 1520) _ 23 [.ref 77, .int (w 0)] [] (I, L, R2, 80)
  refine Ac_loop (R := R2) (by omega) (by rw [eR2, eR1]; rfl) 40 0 (by omega) zR2 ⟨rfl, ?_⟩
  rw [eR2, eR1]
set_option maxRecDepth 100000 in
theorem l_10_100 : LkIN 10 100 m_La_init 0 := ⟨lc_La_init, ⟨_, List.mem_of_getElem? (i := 349) rfl⟩, lwG_in (List.mem_of_getElem? (i := 350) rfl) rfl, rfl, rfl⟩
set_option maxRecDepth 100000 in
theorem l_10_101 : LkIN 10 101 m_Pl_init 0 := ⟨lc_Pl_init, ⟨_, List.mem_of_getElem? (i := 369) rfl⟩, lwG_in (List.mem_of_getElem? (i := 370) rfl) rfl, rfl, rfl⟩
set_option maxRecDepth 100000 in
theorem l_10_9 : LkIN 10 9 m_Ta_init 0 := ⟨lc_Ta_init, ⟨_, List.mem_of_getElem? (i := 146) rfl⟩, lwG_in (List.mem_of_getElem? (i := 147) rfl) rfl, rfl, rfl⟩
set_option maxRecDepth 100000 in
theorem l_10_18 : LkIN 10 18 m_Ho_init 0 := ⟨lc_Ho_init, ⟨_, List.mem_of_getElem? (i := 169) rfl⟩, lwG_in (List.mem_of_getElem? (i := 170) rfl) rfl, rfl, rfl⟩
set_option maxRecDepth 100000 in
theorem l_10_47 : LkIN 10 47 m_Pi_init 0 := ⟨lc_Pi_init, ⟨_, List.mem_of_getElem? (i := 244) rfl⟩, lwG_in (List.mem_of_getElem? (i := 184) rfl) rfl, rfl, rfl⟩
set_option maxRecDepth 100000 in
theorem l_10_57 : LkI 10 57 m_Ac_init 0 := ⟨lc_Ac_init, lwG_in (List.mem_of_getElem? (i := 247) rfl) rfl, lwG_in (List.mem_of_getElem? (i := 248) rfl) rfl, rfl, rfl⟩
set_option maxRecDepth 100000 in
theorem l_10_64 : LkIN 10 64 m_Me_init 0 := ⟨lc_Me_init, ⟨_, List.mem_of_getElem? (i := 270) rfl⟩, lwG_in (List.mem_of_getElem? (i := 271) rfl) rfl, rfl, rfl⟩
set_option maxRecDepth 100000 in
theorem l_10_71 : LkIN 10 71 m_Sn_init 0 := ⟨lc_Sn_init, ⟨_, List.mem_of_getElem? (i := 285) rfl⟩, lwG_in (List.mem_of_getElem? (i := 286) rfl) rfl, rfl, rfl⟩
set_option maxRecDepth 100000 in
theorem l_10_78 : LkIN 10 78 m_Lo_init 0 := ⟨lc_Lo_init, ⟨_, List.mem_of_getElem? (i := 306) rfl⟩, lwG_in (List.mem_of_getElem? (i := 307) rfl) rfl, rfl, rfl⟩
set_option maxRecDepth 100000 in
theorem l_10_85 : LkIN 10 85 m_Pa_init 0 := ⟨lc_Pa_init, ⟨_, List.mem_of_getElem? (i := 323) rfl⟩, lwG_in (List.mem_of_getElem? (i := 324) rfl) rfl, rfl, rfl⟩
def m_FB_init : MM := (10, ⟨"FrostBox", "<init>", "()V"⟩, prog_1_method_1_code, 2, none, 514, 5665)
theorem ok_FB_init : mOK m_FB_init := ⟨by decide +kernel, by decide +kernel⟩
theorem dk_FB_init (d : Nat) : dOK (d + 1) d m_FB_init := ⟨Nat.le_refl _, by show 19 + 2 + 40 * d ≤ 40 * (d + 1); omega⟩
set_option maxRecDepth 100000 in
theorem lc_FB_init : LkC m_FB_init 0 := ⟨lwG_in (List.mem_of_getElem? (i := 140) rfl) rfl, lwG_in (List.mem_of_getElem? (i := 113) rfl) rfl, by decide +kernel, by decide +kernel, by decide +kernel⟩
def fbR (R : RR) : RR := up2 (up2 (up2 (up2 (up2 (up2 (up2 (up2 (up2 (up2 (up2 (up2 (up2 (up2 (mgR 388 (up2 (pR 383 (up2 (mgR 280 (up2 (acR (up2 (up2 (up2 (pR 72 (up2 (pR 67 (up2 (up2 (up2 (hR 50 (up2 (hR 35 (up2 (up2 R 33 0 (some 34)) 32 0 (some 33))) 32 1 (some 35))) 32 2 (some 50)) 32 3 (some 65)) 32 6 (some 66))) 32 9 (some 67))) 32 10 (some 72)) 77 0 (some 78)) 77 1 (some 79)) 40) 32 11 (some 77))) 32 12 (some 280))) 382 0 (some 383))) 382 1 (some 388)) 32 13 (some 382)) 490 0 (some 491)) 490 1 (some 492)) 32 14 (some 490)) 493 0 (some 494)) 493 1 (some 495)) 493 2 (some 496)) 493 3 (some 497)) 493 4 (some 498)) 32 15 (some 493)) 32 16 (some 499)) 32 17 (some 500)) 32 18 (some 501)
def fbI (I : RI4) : RI4 := up2 (up2 (up2 I 33 3 (w (-1))) 32 5 (w (-1))) 32 8 (w 5)
set_option maxRecDepth 100000 in
theorem FB_body {Γ : XG} {d : Nat} {Q : Option Value → XM → Prop} {I : RI4} {L : RJ} {R : RR} {i b1 b2 : Nat} (hi : i < 5) (h3 : R 32 3 = some 65) (h6 : R 32 6 = some 66) (hz : Zr (I, L, R, 502 + 9 * i) (502 + 9 * i)) (h : G Γ m_FB_init (d + 2) (b1, b2) Q 168 [.ref 32, .int (w (i : Int) + w 1)] [] (I, L, up2 (pR (506 + 9 * i) (up2 (lR (502 + 9 * i) R) 65 i (some (502 + 9 * i)))) 66 i (some (506 + 9 * i)), 502 + 9 * i + 9)) : G Γ m_FB_init (d + 2) (b1 + 9, b2 + 383) Q 173 [.ref 32, .int (w (i : Int))] [] (I, L, R, 502 + 9 * i) := by
  have e505 : 502 + 9 * i + 4 = 506 + 9 * i := by omega
  refine run_ok (pc' := 178) [(.aload_n 0, 0, 0, 0), (.getfield 28, 10, 3, 2), (.iload_n 1, 0, 0, 0)] _ _ _ _ (by decide +kernel) ?_
  show _ ∧ (∃ _, _ ∧ (_))
  refine ⟨⟨rfl, show 32 < 502 + 9 * i by omega⟩, 65, h3, ?_⟩
  show G Γ m_FB_init (d + 2) (b1 + 9, b2 + 383) Q 178 [.ref 32, .int (w (i : Int))] [.int (w (i : Int)), .ref 65] (I, L, R, 502 + 9 * i)
  refine g_new (ci := 2) (n := 4) (b1 := b1 + 8) (b2 := b2 + 379) rfl (lwG_in (List.mem_of_getElem? (i := 239) rfl) rfl) (lwG_in (List.mem_of_getElem? (i := 348) rfl) rfl) (lwG_in (List.mem_of_getElem? (i := 122) rfl) rfl) (by decide) (show shp (502 + 9 * i) = _ from (LSh_at (by omega)).2.2.1) (hz (502 + 9 * i) (by omega)) (by decide +kernel) ?_
  show G Γ m_FB_init (d + 2) (b1 + 8, b2 + 379) Q 181 [.ref 32, .int (w (i : Int))] [.ref (502 + 9 * i), .int (w (i : Int)), .ref 65] (I, L, R, 502 + 9 * i + 1)
  refine run_ok (pc' := 182) [(.dup, 0, 0, 0)] _ _ _ _ (by decide +kernel) ?_
  show G Γ m_FB_init (d + 2) (b1 + 8, b2 + 379) Q 182 [.ref 32, .int (w (i : Int))] [.ref (502 + 9 * i), .ref (502 + 9 * i), .int (w (i : Int)), .ref 65] (I, L, R, 502 + 9 * i + 1)
  refine g_invIN (M := m_FB_init) (i := 100) (As := []) (b1 := b1 + 5) (b2 := b2 + 69) l_10_100 (by decide +kernel) rfl (dk_La_init _) (Nat.le_of_ble_eq_true rfl) (C_La_init (by omega) (LSh_at (by omega)) (fun q hq => hz q (Nat.le_trans (by omega) hq))) ?_
  rintro _ _ ⟨rfl, rfl⟩ -
  show G Γ m_FB_init (d + 2) (b1 + 5, b2 + 69) Q 185 [.ref 32, .int (w (i : Int))] [.ref (502 + 9 * i), .int (w (i : Int)), .ref 65] (I, L, (lR (502 + 9 * i) R), 502 + 9 * i + 4)
  obtain ⟨R1, eR1⟩ : ∃ r, r = lR (502 + 9 * i) R := ⟨_, rfl⟩
  rw [← eR1]
  have zR1 : Zr (I, L, R1, 502 + 9 * i + 4) (502 + 9 * i + 4) := by rw [eR1]; exact Zr.f (fun q hq j => lR_ne (by omega)) (by omega) hz
  refine g_aast (ci := 2) (t := 5) (n := 5) rfl rfl ⟨rfl, show 65 < 502 + 9 * i + 4 by omega⟩ (by omega) (w_in (by omega) (by omega) (by omega)) ⟨(LSh_at (by omega)).2.2.1, show 502 + 9 * i < 502 + 9 * i + 4 by omega⟩ (by decide +kernel) ?_
  rw [show (w (i : Int)).toNatClampNeg = i from w_cln (by omega)]
  show G Γ m_FB_init (d + 2) (b1 + 5, b2 + 69) Q 186 [.ref 32, .int (w (i : Int))] [] (I, L, (up2 R1 65 i (some (502 + 9 * i))), 502 + 9 * i + 4)
  obtain ⟨R2, eR2⟩ : ∃ r, r = up2 R1 65 i (some (502 + 9 * i)) := ⟨_, rfl⟩
  rw [← eR2]
  have zR2 : Zr (I, L, R2, 502 + 9 * i + 4) (502 + 9 * i + 4) := by rw [eR2]; exact Zr.f (fun q hq j => up2_out (by omega)) (by omega) zR1
  refine run_ok (pc' := 191) [(.aload_n 0, 0, 0, 0), (.getfield 38, 10, 6, 2), (.iload_n 1, 0, 0, 0)] _ _ _ _ (by decide +kernel) ?_
  show _ ∧ (∃ _, _ ∧ (_))
  refine ⟨⟨rfl, show 32 < 502 + 9 * i + 4 by omega⟩, 66, (show R2 32 6 = _ by rw [eR2, up2_out (by omega), eR1, lR_ne (by omega)]; exact h6), ?_⟩
  show G Γ m_FB_init (d + 2) (b1 + 5, b2 + 69) Q 191 [.ref 32, .int (w (i : Int))] [.int (w (i : Int)), .ref 66] (I, L, R2, 502 + 9 * i + 4)
  refine g_new (ci := 7) (n := 5) (b1 := b1 + 4) (b2 := b2 + 64) rfl (lwG_in (List.mem_of_getElem? (i := 241) rfl) rfl) (lwG_in (List.mem_of_getElem? (i := 368) rfl) rfl) (lwG_in (List.mem_of_getElem? (i := 123) rfl) rfl) (by decide) (show shp (502 + 9 * i + 4) = _ from (PLs_at (by omega)).1) (zR2 (502 + 9 * i + 4) (by omega)) (by decide +kernel) ?_
  show G Γ m_FB_init (d + 2) (b1 + 4, b2 + 64) Q 194 [.ref 32, .int (w (i : Int))] [.ref (502 + 9 * i + 4), .int (w (i : Int)), .ref 66] (I, L, R2, 502 + 9 * i + 5)
  refine run_ok (pc' := 195) [(.dup, 0, 0, 0)] _ _ _ _ (by decide +kernel) ?_
  show G Γ m_FB_init (d + 2) (b1 + 4, b2 + 64) Q 195 [.ref 32, .int (w (i : Int))] [.ref (502 + 9 * i + 4), .ref (502 + 9 * i + 4), .int (w (i : Int)), .ref 66] (I, L, R2, 502 + 9 * i + 5)
  refine g_invIN (M := m_FB_init) (i := 101) (As := []) (b1 := b1) (b2 := b2) l_10_101 (by decide +kernel) rfl (dk_Pl_init _) (Nat.le_of_ble_eq_true rfl) (C_Pl_init (by omega) (PLs_at (by omega)) (fun q hq => zR2 q (Nat.le_trans (by omega) hq))) ?_
  rintro _ _ ⟨rfl, rfl⟩ -
  show G Γ m_FB_init (d + 2) (b1, b2) Q 198 [.ref 32, .int (w (i : Int))] [.ref (502 + 9 * i + 4), .int (w (i : Int)), .ref 66] (I, L, (pR (502 + 9 * i + 4) R2), 502 + 9 * i + 9)
  obtain ⟨R3, eR3⟩ : ∃ r, r = pR (502 + 9 * i + 4) R2 := ⟨_, rfl⟩
  rw [← eR3]
  have zR3 : Zr (I, L, R3, 502 + 9 * i + 9) (502 + 9 * i + 9) := by rw [eR3]; exact Zr.f (fun q hq j => pR_ne (by omega)) (by omega) zR2
  refine g_aast (ci := 7) (t := 6) (n := 5) rfl rfl ⟨rfl, show 66 < 502 + 9 * i + 9 by omega⟩ (by omega) (w_in (by omega) (by omega) (by omega)) ⟨(PLs_at (by omega)).1, show 502 + 9 * i + 4 < 502 + 9 * i + 9 by omega⟩ (by decide +kernel) ?_
  rw [show (w (i : Int)).toNatClampNeg = i from w_cln (by omega)]
  show G Γ m_FB_init (d + 2) (b1, b2) Q 199 [.ref 32, .int (w (i : Int))] [] (I, L, (up2 R3 66 i (some (502 + 9 * i + 4))), 502 + 9 * i + 9)
  obtain ⟨R4, eR4⟩ : ∃ r, r = up2 R3 66 i (some (502 + 9 * i + 4)) := ⟨_, rfl⟩
  rw [← eR4]
  have zR4 : Zr (I, L, R4, 502 + 9 * i + 9) (502 + 9 * i + 9) := by rw [eR4]; exact Zr.f (fun q hq j => up2_out (by omega)) (by omega) zR3
  refine run_ok (pc' := 168) [(.iinc 1 1, 0, 0, 0), (.goto (-34), 0, 0, 0)] _ _ _ _ (by decide +kernel) ?_
  show G Γ m_FB_init (d + 2) (b1, b2) Q 168 [.ref 32, .int ((w (i : Int)) + w 1)] [] (I, L, R4, 502 + 9 * i + 9)
  rw [eR4, eR3, eR2, eR1, e505]
  exact h
theorem FB_loop {Γ : XG} {d : Nat} {Q : Option Value → XM → Prop} {I : RI4} {L : RJ} {R : RR} (h3 : R 32 3 = some 65) (h6 : R 32 6 = some 66) : ∀ (f i : Nat), i + f = 5 → Zr (I, L, vR R i, 502 + 9 * i) (502 + 9 * i) → Q none (I, L, vR R 5, 547) → G Γ m_FB_init (d + 2) (9 * f, 383 * f) Q 168 [.ref 32, .int (w (i : Int))] [] (I, L, vR R i, 502 + 9 * i)
  | 0, i, e, hz, h => by
    refine run_ok (pc' := 170) [(.iload_n 1, 0, 0, 0), (.iconst 4, 0, 0, 0)] _ _ _ _ (by decide +kernel) ?_
    refine g_icmp_gt (x := w (i : Int)) (y := w 4) (pc' := 205) (off := 35) (by decide) (by decide +kernel) (fun _ => g_retv (by decide +kernel) rfl ?_) (fun q => ?_)
    · have e2 : i = 5 := by omega
      subst e2
      exact h
    · rw [w_lt (by omega) (by omega) (by omega) (by omega)] at q
      omega
  | f + 1, i, e, hz, h => by
    refine run_ok (pc' := 170) [(.iload_n 1, 0, 0, 0), (.iconst 4, 0, 0, 0)] _ _ _ _ (by decide +kernel) ?_
    refine g_icmp_gt (x := w (i : Int)) (y := w 4) (pc' := 205) (off := 35) (by decide) (by decide +kernel) (fun q => ?_) (fun q => ?_)
    · rw [w_lt (by omega) (by omega) (by omega) (by omega)] at q
      omega
    · refine FB_body (by omega) (by rw [vR_ne i (by omega)]; exact h3) (by rw [vR_ne i (by omega)]; exact h6) hz ?_
      have hz2 : Zr (I, L, vR R (i + 1), 502 + 9 * (i + 1)) (502 + 9 * (i + 1)) := Zr.f (fun q hq j => by show up2 _ _ _ _ _ _ = _; rw [up2_out (by omega), pR_ne (by omega), up2_out (by omega), lR_ne (by omega)]) (by omega) hz
      have q2 := FB_loop (Γ := Γ) (d := d) h3 h6 f (i + 1) (by omega) hz2 h
      rw [show ((i + 1 : Nat) : Int) = (i : Int) + 1 by omega, ← w_add] at q2
      exact q2
set_option maxRecDepth 100000 in
theorem C_FB_init {Γ : XG} {d : Nat} {I : RI4} {L : RJ} {R : RR} (hd : 3 ≤ d) (hz : Zr (I, L, R, 33) (33)) : Call Γ m_FB_init d [.ref 32] (I, L, R, 33) (KV (fun μ' => μ' = (fbI I, L, vR (fbR R) 5, 547))) := by
  obtain ⟨d, rfl⟩ : ∃ e, d = e + 2 := ⟨d - 2, by omega⟩
  refine Call.of ok_FB_init (Nat.le_of_ble_eq_true rfl) ?_
  show G Γ m_FB_init (d + 2) (514, 5665) _ 0 [.ref 32] [] (I, L, R, 33)
  refine run_ok (pc' := 1) [(.aload_n 0, 0, 0, 0)] _ _ _ _ (by decide +kernel) ?_
  show G Γ m_FB_init (d + 2) (514, 5665) _ 1 [.ref 32] [.ref 32] (I, L, R, 33)
  refine g_objInit (lwG_in (List.mem_of_getElem? (i := 141) rfl) rfl) hwO (Nat.le_of_ble_eq_true rfl) (by decide +kernel) ?_
  show G Γ m_FB_init (d + 2) (514, 5665) _ 4 [.ref 32] [] (I, L, R, 33)
  refine run_ok (pc' := 5) [(.aload_n 0, 0, 0, 0)] _ _ _ _ (by decide +kernel) ?_
  show G Γ m_FB_init (d + 2) (514, 5665) _ 5 [.ref 32] [.ref 32] (I, L, R, 33)
  refine g_new (ci := 9) (n := 4) (b1 := 513) (b2 := 5661) rfl (lwG_in (List.mem_of_getElem? (i := 144) rfl) rfl) (lwG_in (List.mem_of_getElem? (i := 145) rfl) rfl) (lwG_in (List.mem_of_getElem? (i := 114) rfl) rfl) (by decide) (show shp (33) = _ from rfl) (hz (33) (by omega)) (by decide +kernel) ?_
  show G Γ m_FB_init (d + 2) (513, 5661) _ 8 [.ref 32] [.ref 33, .ref 32] (I, L, R, 34)
  refine run_ok (pc' := 9) [(.dup, 0, 0, 0)] _ _ _ _ (by decide +kernel) ?_
  show G Γ m_FB_init (d + 2) (513, 5661) _ 9 [.ref 32] [.ref 33, .ref 33, .ref 32] (I, L, R, 34)
  refine g_invIN (M := m_FB_init) (i := 9) (As := []) (b1 := 512) (b2 := 5421) l_10_9 (by decide +kernel) rfl (dk_Ta_init _) (Nat.le_of_ble_eq_true rfl) (C_Ta_init (by omega) (fun q hq => hz q (Nat.le_trans (by omega) hq))) ?_
  rintro _ _ ⟨rfl, rfl⟩ -
  show G Γ m_FB_init (d + 2) (512, 5421) _ 12 [.ref 32] [.ref 33, .ref 32] ((up2 I 33 3 (w (-1))), L, (up2 R 33 0 (some 34)), 35)
  obtain ⟨R1, eR1⟩ : ∃ r, r = up2 R 33 0 (some 34) := ⟨_, rfl⟩
  rw [← eR1]
  obtain ⟨I1, eI1⟩ : ∃ r, r = up2 I 33 3 (w (-1)) := ⟨_, rfl⟩
  rw [← eI1]
  have zR1 : Zr (I1, L, R1, 35) (35) := by rw [eR1, eI1]; exact Zr.fi (fun q hq j => up2_out (by omega)) (by omega) (by omega) hz
  refine g_pf (i := 10) (k := 0) (ci := 10) (by decide +kernel) ⟨rfl, show 32 < 35 by omega⟩ ?_
  show G Γ m_FB_init (d + 2) (512, 5421) _ 15 [.ref 32] [] (I1, L, (up2 R1 32 0 (some 33)), 35)
  obtain ⟨R2, eR2⟩ : ∃ r, r = up2 R1 32 0 (some 33) := ⟨_, rfl⟩
  rw [← eR2]
  have zR2 : Zr (I1, L, R2, 35) (35) := by rw [eR2]; exact Zr.f (fun q hq j => up2_out (by omega)) (by omega) zR1
  refine run_ok (pc' := 16) [(.aload_n 0, 0, 0, 0)] _ _ _ _ (by decide +kernel) ?_
  show G Γ m_FB_init (d + 2) (512, 5421) _ 16 [.ref 32] [.ref 32] (I1, L, R2, 35)
  refine g_new (ci := 1) (n := 6) (b1 := 511) (b2 := 5415) rfl (lwG_in (List.mem_of_getElem? (i := 167) rfl) rfl) (lwG_in (List.mem_of_getElem? (i := 168) rfl) rfl) (lwG_in (List.mem_of_getElem? (i := 115) rfl) rfl) (by decide) (show shp (35) = _ from rfl) (zR2 (35) (by omega)) (by decide +kernel) ?_
  show G Γ m_FB_init (d + 2) (511, 5415) _ 19 [.ref 32] [.ref 35, .ref 32] (I1, L, R2, 36)
  refine run_ok (pc' := 20) [(.dup, 0, 0, 0)] _ _ _ _ (by decide +kernel) ?_
  show G Γ m_FB_init (d + 2) (511, 5415) _ 20 [.ref 32] [.ref 35, .ref 35, .ref 32] (I1, L, R2, 36)
  refine g_invIN (M := m_FB_init) (i := 18) (As := []) (b1 := 497) (b2 := 5333) l_10_18 (by decide +kernel) rfl (dk_Ho_init _) (Nat.le_of_ble_eq_true rfl) (C_Ho_init (by omega) (HS_at (by omega)) (fun q hq => zR2 q (Nat.le_trans (by omega) hq))) ?_
  rintro _ _ ⟨rfl, rfl⟩ -
  show G Γ m_FB_init (d + 2) (497, 5333) _ 23 [.ref 32] [.ref 35, .ref 32] (I1, L, (hR 35 R2), 50)
  obtain ⟨R3, eR3⟩ : ∃ r, r = hR 35 R2 := ⟨_, rfl⟩
  rw [← eR3]
  have zR3 : Zr (I1, L, R3, 50) (50) := by rw [eR3]; exact Zr.f (fun q hq j => hR_ne (by omega)) (by omega) zR2
  refine g_pf (i := 19) (k := 1) (ci := 10) (by decide +kernel) ⟨rfl, show 32 < 50 by omega⟩ ?_
  show G Γ m_FB_init (d + 2) (497, 5333) _ 26 [.ref 32] [] (I1, L, (up2 R3 32 1 (some 35)), 50)
  obtain ⟨R4, eR4⟩ : ∃ r, r = up2 R3 32 1 (some 35) := ⟨_, rfl⟩
  rw [← eR4]
  have zR4 : Zr (I1, L, R4, 50) (50) := by rw [eR4]; exact Zr.f (fun q hq j => up2_out (by omega)) (by omega) zR3
  refine run_ok (pc' := 27) [(.aload_n 0, 0, 0, 0)] _ _ _ _ (by decide +kernel) ?_
  show G Γ m_FB_init (d + 2) (497, 5333) _ 27 [.ref 32] [.ref 32] (I1, L, R4, 50)
  refine g_new (ci := 1) (n := 6) (b1 := 496) (b2 := 5327) rfl (lwG_in (List.mem_of_getElem? (i := 167) rfl) rfl) (lwG_in (List.mem_of_getElem? (i := 168) rfl) rfl) (lwG_in (List.mem_of_getElem? (i := 115) rfl) rfl) (by decide) (show shp (50) = _ from rfl) (zR4 (50) (by omega)) (by decide +kernel) ?_
  show G Γ m_FB_init (d + 2) (496, 5327) _ 30 [.ref 32] [.ref 50, .ref 32] (I1, L, R4, 51)
  refine run_ok (pc' := 31) [(.dup, 0, 0, 0)] _ _ _ _ (by decide +kernel) ?_
  show G Γ m_FB_init (d + 2) (496, 5327) _ 31 [.ref 32] [.ref 50, .ref 50, .ref 32] (I1, L, R4, 51)
  refine g_invIN (M := m_FB_init) (i := 18) (As := []) (b1 := 482) (b2 := 5245) l_10_18 (by decide +kernel) rfl (dk_Ho_init _) (Nat.le_of_ble_eq_true rfl) (C_Ho_init (by omega) (HS_at (by omega)) (fun q hq => zR4 q (Nat.le_trans (by omega) hq))) ?_
  rintro _ _ ⟨rfl, rfl⟩ -
  show G Γ m_FB_init (d + 2) (482, 5245) _ 34 [.ref 32] [.ref 50, .ref 32] (I1, L, (hR 50 R4), 65)
  obtain ⟨R5, eR5⟩ : ∃ r, r = hR 50 R4 := ⟨_, rfl⟩
  rw [← eR5]
  have zR5 : Zr (I1, L, R5, 65) (65) := by rw [eR5]; exact Zr.f (fun q hq j => hR_ne (by omega)) (by omega) zR4
  refine g_pf (i := 23) (k := 2) (ci := 10) (by decide +kernel) ⟨rfl, show 32 < 65 by omega⟩ ?_
  show G Γ m_FB_init (d + 2) (482, 5245) _ 37 [.ref 32] [] (I1, L, (up2 R5 32 2 (some 50)), 65)
  obtain ⟨R6, eR6⟩ : ∃ r, r = up2 R5 32 2 (some 50) := ⟨_, rfl⟩
  rw [← eR6]
  have zR6 : Zr (I1, L, R6, 65) (65) := by rw [eR6]; exact Zr.f (fun q hq j => up2_out (by omega)) (by omega) zR5
  refine run_ok (pc' := 39) [(.aload_n 0, 0, 0, 0), (.iconst 5, 0, 0, 0)] _ _ _ _ (by decide +kernel) ?_
  show G Γ m_FB_init (d + 2) (482, 5245) _ 39 [.ref 32] [.int (w 5), .ref 32] (I1, L, R6, 65)
  refine g_anew (t := 5) (n := 5) (b1 := 481) (b2 := 5240) rfl (lwG_in (List.mem_of_getElem? (i := 239) rfl) rfl) (by decide) (show shp (65) = _ from rfl) (zR6 (65) (by omega)) (by decide +kernel) ?_
  show G Γ m_FB_init (d + 2) (481, 5240) _ 42 [.ref 32] [.ref 65, .ref 32] (I1, L, R6, 66)
  refine g_pf (i := 28) (k := 3) (ci := 10) (by decide +kernel) ⟨rfl, show 32 < 66 by omega⟩ ?_
  show G Γ m_FB_init (d + 2) (481, 5240) _ 45 [.ref 32] [] (I1, L, (up2 R6 32 3 (some 65)), 66)
  obtain ⟨R7, eR7⟩ : ∃ r, r = up2 R6 32 3 (some 65) := ⟨_, rfl⟩
  rw [← eR7]
  have zR7 : Zr (I1, L, R7, 66) (66) := by rw [eR7]; exact Zr.f (fun q hq j => up2_out (by omega)) (by omega) zR6
  refine run_ok (pc' := 50) [(.aload_n 0, 0, 0, 0), (.iconst (-1), 0, 0, 0), (.putfield 32, 10, 5, 0)] _ _ _ _ (by decide +kernel) ?_
  show _ ∧ (_)
  refine ⟨⟨rfl, show 32 < 66 by omega⟩, ?_⟩
  show G Γ m_FB_init (d + 2) (481, 5240) _ 50 [.ref 32] [] ((up2 I1 32 5 (w (-1))), L, R7, 66)
  obtain ⟨I8, eI8⟩ : ∃ r, r = up2 I1 32 5 (w (-1)) := ⟨_, rfl⟩
  rw [← eI8]
  have zI8 : Zr (I8, L, R7, 66) (66) := by rw [eI8]; exact Zr.i (by omega) (by omega) zR7
  refine run_ok (pc' := 52) [(.aload_n 0, 0, 0, 0), (.iconst 5, 0, 0, 0)] _ _ _ _ (by decide +kernel) ?_
  show G Γ m_FB_init (d + 2) (481, 5240) _ 52 [.ref 32] [.int (w 5), .ref 32] (I8, L, R7, 66)
  refine g_anew (t := 6) (n := 5) (b1 := 480) (b2 := 5235) rfl (lwG_in (List.mem_of_getElem? (i := 241) rfl) rfl) (by decide) (show shp (66) = _ from rfl) (zI8 (66) (by omega)) (by decide +kernel) ?_
  show G Γ m_FB_init (d + 2) (480, 5235) _ 55 [.ref 32] [.ref 66, .ref 32] (I8, L, R7, 67)
  refine g_pf (i := 38) (k := 6) (ci := 10) (by decide +kernel) ⟨rfl, show 32 < 67 by omega⟩ ?_
  show G Γ m_FB_init (d + 2) (480, 5235) _ 58 [.ref 32] [] (I8, L, (up2 R7 32 6 (some 66)), 67)
  obtain ⟨R9, eR9⟩ : ∃ r, r = up2 R7 32 6 (some 66) := ⟨_, rfl⟩
  rw [← eR9]
  have zR9 : Zr (I8, L, R9, 67) (67) := by rw [eR9]; exact Zr.f (fun q hq j => up2_out (by omega)) (by omega) zI8
  refine run_ok (pc' := 63) [(.aload_n 0, 0, 0, 0), (.iconst 5, 0, 0, 0), (.putfield 42, 10, 8, 0)] _ _ _ _ (by decide +kernel) ?_
  show _ ∧ (_)
  refine ⟨⟨rfl, show 32 < 67 by omega⟩, ?_⟩
  show G Γ m_FB_init (d + 2) (480, 5235) _ 63 [.ref 32] [] ((up2 I8 32 8 (w 5)), L, R9, 67)
  obtain ⟨I10, eI10⟩ : ∃ r, r = up2 I8 32 8 (w 5) := ⟨_, rfl⟩
  rw [← eI10]
  have zI10 : Zr (I10, L, R9, 67) (67) := by rw [eI10]; exact Zr.i (by omega) (by omega) zR9
  refine run_ok (pc' := 64) [(.aload_n 0, 0, 0, 0)] _ _ _ _ (by decide +kernel) ?_
  show G Γ m_FB_init (d + 2) (480, 5235) _ 64 [.ref 32] [.ref 32] (I10, L, R9, 67)
  refine g_new (ci := 6) (n := 6) (b1 := 479) (b2 := 5229) rfl (lwG_in (List.mem_of_getElem? (i := 243) rfl) rfl) (lwG_in (List.mem_of_getElem? (i := 182) rfl) rfl) (lwG_in (List.mem_of_getElem? (i := 116) rfl) rfl) (by decide) (show shp (67) = _ from rfl) (zI10 (67) (by omega)) (by decide +kernel) ?_
  show G Γ m_FB_init (d + 2) (479, 5229) _ 67 [.ref 32] [.ref 67, .ref 32] (I10, L, R9, 68)
  refine run_ok (pc' := 68) [(.dup, 0, 0, 0)] _ _ _ _ (by decide +kernel) ?_
  show G Γ m_FB_init (d + 2) (479, 5229) _ 68 [.ref 32] [.ref 67, .ref 67, .ref 32] (I10, L, R9, 68)
  refine g_invIN (M := m_FB_init) (i := 47) (As := []) (b1 := 475) (b2 := 5197) l_10_47 (by decide +kernel) rfl (dk_Pi_init _) (Nat.le_of_ble_eq_true rfl) (C_Pi_init (by omega) (PS_at (by omega)) (fun q hq => zI10 q (Nat.le_trans (by omega) hq))) ?_
  rintro _ _ ⟨rfl, rfl⟩ -
  show G Γ m_FB_init (d + 2) (475, 5197) _ 71 [.ref 32] [.ref 67, .ref 32] (I10, L, (pR 67 R9), 72)
  obtain ⟨R11, eR11⟩ : ∃ r, r = pR 67 R9 := ⟨_, rfl⟩
  rw [← eR11]
  have zR11 : Zr (I10, L, R11, 72) (72) := by rw [eR11]; exact Zr.f (fun q hq j => pR_ne (by omega)) (by omega) zI10
  refine g_pf (i := 48) (k := 9) (ci := 10) (by decide +kernel) ⟨rfl, show 32 < 72 by omega⟩ ?_
  show G Γ m_FB_init (d + 2) (475, 5197) _ 74 [.ref 32] [] (I10, L, (up2 R11 32 9 (some 67)), 72)
  obtain ⟨R12, eR12⟩ : ∃ r, r = up2 R11 32 9 (some 67) := ⟨_, rfl⟩
  rw [← eR12]
  have zR12 : Zr (I10, L, R12, 72) (72) := by rw [eR12]; exact Zr.f (fun q hq j => up2_out (by omega)) (by omega) zR11
  refine run_ok (pc' := 75) [(.aload_n 0, 0, 0, 0)] _ _ _ _ (by decide +kernel) ?_
  show G Γ m_FB_init (d + 2) (475, 5197) _ 75 [.ref 32] [.ref 32] (I10, L, R12, 72)
  refine g_new (ci := 6) (n := 6) (b1 := 474) (b2 := 5191) rfl (lwG_in (List.mem_of_getElem? (i := 243) rfl) rfl) (lwG_in (List.mem_of_getElem? (i := 182) rfl) rfl) (lwG_in (List.mem_of_getElem? (i := 116) rfl) rfl) (by decide) (show shp (72) = _ from rfl) (zR12 (72) (by omega)) (by decide +kernel) ?_
  show G Γ m_FB_init (d + 2) (474, 5191) _ 78 [.ref 32] [.ref 72, .ref 32] (I10, L, R12, 73)
  refine run_ok (pc' := 79) [(.dup, 0, 0, 0)] _ _ _ _ (by decide +kernel) ?_
  show G Γ m_FB_init (d + 2) (474, 5191) _ 79 [.ref 32] [.ref 72, .ref 72, .ref 32] (I10, L, R12, 73)
  refine g_invIN (M := m_FB_init) (i := 47) (As := []) (b1 := 470) (b2 := 5159) l_10_47 (by decide +kernel) rfl (dk_Pi_init _) (Nat.le_of_ble_eq_true rfl) (C_Pi_init (by omega) (PS_at (by omega)) (fun q hq => zR12 q (Nat.le_trans (by omega) hq))) ?_
  rintro _ _ ⟨rfl, rfl⟩ -
  show G Γ m_FB_init (d + 2) (470, 5159) _ 82 [.ref 32] [.ref 72, .ref 32] (I10, L, (pR 72 R12), 77)
  obtain ⟨R13, eR13⟩ : ∃ r, r = pR 72 R12 := ⟨_, rfl⟩
  rw [← eR13]
  have zR13 : Zr (I10, L, R13, 77) (77) := by rw [eR13]; exact Zr.f (fun q hq j => pR_ne (by omega)) (by omega) zR12
  refine g_pf (i := 52) (k := 10) (ci := 10) (by decide +kernel) ⟨rfl, show 32 < 77 by omega⟩ ?_
  show G Γ m_FB_init (d + 2) (470, 5159) _ 85 [.ref 32] [] (I10, L, (up2 R13 32 10 (some 72)), 77)
  obtain ⟨R14, eR14⟩ : ∃ r, r = up2 R13 32 10 (some 72) := ⟨_, rfl⟩
  rw [← eR14]
  have zR14 : Zr (I10, L, R14, 77) (77) := by rw [eR14]; exact Zr.f (fun q hq j => up2_out (by omega)) (by omega) zR13
  refine run_ok (pc' := 86) [(.aload_n 0, 0, 0, 0)] _ _ _ _ (by decide +kernel) ?_
  show G Γ m_FB_init (d + 2) (470, 5159) _ 86 [.ref 32] [.ref 32] (I10, L, R14, 77)
  refine g_new (ci := 0) (n := 4) (b1 := 469) (b2 := 5155) rfl (lwG_in (List.mem_of_getElem? (i := 245) rfl) rfl) (lwG_in (List.mem_of_getElem? (i := 246) rfl) rfl) (lwG_in (List.mem_of_getElem? (i := 117) rfl) rfl) (by decide) (show shp (77) = _ from rfl) (zR14 (77) (by omega)) (by decide +kernel) ?_
  show G Γ m_FB_init (d + 2) (469, 5155) _ 89 [.ref 32] [.ref 77, .ref 32] (I10, L, R14, 78)
  refine run_ok (pc' := 90) [(.dup, 0, 0, 0)] _ _ _ _ (by decide +kernel) ?_
  show G Γ m_FB_init (d + 2) (469, 5155) _ 90 [.ref 32] [.ref 77, .ref 77, .ref 32] (I10, L, R14, 78)
  refine g_invI (M := m_FB_init) (i := 57) (As := []) (b1 := 267) (b2 := 3555) l_10_57 (by decide +kernel) rfl (dk_Ac_init _) (Nat.le_of_ble_eq_true rfl) (C_Ac_init (by omega) (fun q hq => zR14 q (Nat.le_trans (by omega) hq))) ?_
  rintro _ _ ⟨rfl, rfl⟩ -
  show G Γ m_FB_init (d + 2) (267, 3555) _ 93 [.ref 32] [.ref 77, .ref 32] (I10, L, (acR (up2 (up2 R14 77 0 (some 78)) 77 1 (some 79)) 40), 280)
  obtain ⟨R15, eR15⟩ : ∃ r, r = acR (up2 (up2 R14 77 0 (some 78)) 77 1 (some 79)) 40 := ⟨_, rfl⟩
  rw [← eR15]
  have zR15 : Zr (I10, L, R15, 280) (280) := by rw [eR15]; exact Zr.f (fun q hq j => by rw [acR_ne 40 (by omega), up2_out (by omega), up2_out (by omega)]) (by omega) zR14
  refine g_pf (i := 58) (k := 11) (ci := 10) (by decide +kernel) ⟨rfl, show 32 < 280 by omega⟩ ?_
  show G Γ m_FB_init (d + 2) (267, 3555) _ 96 [.ref 32] [] (I10, L, (up2 R15 32 11 (some 77)), 280)
  obtain ⟨R16, eR16⟩ : ∃ r, r = up2 R15 32 11 (some 77) := ⟨_, rfl⟩
  rw [← eR16]
  have zR16 : Zr (I10, L, R16, 280) (280) := by rw [eR16]; exact Zr.f (fun q hq j => up2_out (by omega)) (by omega) zR15
  refine run_ok (pc' := 97) [(.aload_n 0, 0, 0, 0)] _ _ _ _ (by decide +kernel) ?_
  show G Γ m_FB_init (d + 2) (267, 3555) _ 97 [.ref 32] [.ref 32] (I10, L, R16, 280)
  refine g_new (ci := 4) (n := 2) (b1 := 266) (b2 := 3553) rfl (lwG_in (List.mem_of_getElem? (i := 268) rfl) rfl) (lwG_in (List.mem_of_getElem? (i := 269) rfl) rfl) (lwG_in (List.mem_of_getElem? (i := 118) rfl) rfl) (by decide) (show shp (280) = _ from rfl) (zR16 (280) (by omega)) (by decide +kernel) ?_
  show G Γ m_FB_init (d + 2) (266, 3553) _ 100 [.ref 32] [.ref 280, .ref 32] (I10, L, R16, 281)
  refine run_ok (pc' := 101) [(.dup, 0, 0, 0)] _ _ _ _ (by decide +kernel) ?_
  show G Γ m_FB_init (d + 2) (266, 3553) _ 101 [.ref 32] [.ref 280, .ref 280, .ref 32] (I10, L, R16, 281)
  refine g_invIN (M := m_FB_init) (i := 64) (As := []) (b1 := 165) (b2 := 3053) l_10_64 (by decide +kernel) rfl (dk_Me_init _) (Nat.le_of_ble_eq_true rfl) (C_Me_init (by omega) (MSh_at (by omega)) (fun q hq => zR16 q (Nat.le_trans (by omega) hq))) ?_
  rintro _ _ ⟨rfl, rfl⟩ -
  show G Γ m_FB_init (d + 2) (165, 3053) _ 104 [.ref 32] [.ref 280, .ref 32] (I10, L, (mgR 280 R16), 382)
  obtain ⟨R17, eR17⟩ : ∃ r, r = mgR 280 R16 := ⟨_, rfl⟩
  rw [← eR17]
  have zR17 : Zr (I10, L, R17, 382) (382) := by rw [eR17]; exact Zr.f (fun q hq j => mgR_ne (by omega)) (by omega) zR16
  refine g_pf (i := 65) (k := 12) (ci := 10) (by decide +kernel) ⟨rfl, show 32 < 382 by omega⟩ ?_
  show G Γ m_FB_init (d + 2) (165, 3053) _ 107 [.ref 32] [] (I10, L, (up2 R17 32 12 (some 280)), 382)
  obtain ⟨R18, eR18⟩ : ∃ r, r = up2 R17 32 12 (some 280) := ⟨_, rfl⟩
  rw [← eR18]
  have zR18 : Zr (I10, L, R18, 382) (382) := by rw [eR18]; exact Zr.f (fun q hq j => up2_out (by omega)) (by omega) zR17
  refine run_ok (pc' := 108) [(.aload_n 0, 0, 0, 0)] _ _ _ _ (by decide +kernel) ?_
  show G Γ m_FB_init (d + 2) (165, 3053) _ 108 [.ref 32] [.ref 32] (I10, L, R18, 382)
  refine g_new (ci := 8) (n := 3) (b1 := 164) (b2 := 3050) rfl (lwG_in (List.mem_of_getElem? (i := 283) rfl) rfl) (lwG_in (List.mem_of_getElem? (i := 284) rfl) rfl) (lwG_in (List.mem_of_getElem? (i := 119) rfl) rfl) (by decide) (show shp (382) = _ from rfl) (zR18 (382) (by omega)) (by decide +kernel) ?_
  show G Γ m_FB_init (d + 2) (164, 3050) _ 111 [.ref 32] [.ref 382, .ref 32] (I10, L, R18, 383)
  refine run_ok (pc' := 112) [(.dup, 0, 0, 0)] _ _ _ _ (by decide +kernel) ?_
  show G Γ m_FB_init (d + 2) (164, 3050) _ 112 [.ref 32] [.ref 382, .ref 382, .ref 32] (I10, L, R18, 383)
  refine g_invIN (M := m_FB_init) (i := 71) (As := []) (b1 := 57) (b2 := 2510) l_10_71 (by decide +kernel) rfl (dk_Sn_init _) (Nat.le_of_ble_eq_true rfl) (C_Sn_init (by omega) (fun q hq => zR18 q (Nat.le_trans (by omega) hq))) ?_
  rintro _ _ ⟨rfl, rfl⟩ -
  show G Γ m_FB_init (d + 2) (57, 2510) _ 115 [.ref 32] [.ref 382, .ref 32] (I10, L, (up2 (mgR 388 (up2 (pR 383 R18) 382 0 (some 383))) 382 1 (some 388)), 490)
  obtain ⟨R19, eR19⟩ : ∃ r, r = up2 (mgR 388 (up2 (pR 383 R18) 382 0 (some 383))) 382 1 (some 388) := ⟨_, rfl⟩
  rw [← eR19]
  have zR19 : Zr (I10, L, R19, 490) (490) := by rw [eR19]; exact Zr.f (fun q hq j => by rw [up2_out (by omega), mgR_ne (by omega), up2_out (by omega), pR_ne (by omega)]) (by omega) zR18
  refine g_pf (i := 72) (k := 13) (ci := 10) (by decide +kernel) ⟨rfl, show 32 < 490 by omega⟩ ?_
  show G Γ m_FB_init (d + 2) (57, 2510) _ 118 [.ref 32] [] (I10, L, (up2 R19 32 13 (some 382)), 490)
  obtain ⟨R20, eR20⟩ : ∃ r, r = up2 R19 32 13 (some 382) := ⟨_, rfl⟩
  rw [← eR20]
  have zR20 : Zr (I10, L, R20, 490) (490) := by rw [eR20]; exact Zr.f (fun q hq j => up2_out (by omega)) (by omega) zR19
  refine run_ok (pc' := 119) [(.aload_n 0, 0, 0, 0)] _ _ _ _ (by decide +kernel) ?_
  show G Γ m_FB_init (d + 2) (57, 2510) _ 119 [.ref 32] [.ref 32] (I10, L, R20, 490)
  refine g_new (ci := 3) (n := 3) (b1 := 56) (b2 := 2507) rfl (lwG_in (List.mem_of_getElem? (i := 304) rfl) rfl) (lwG_in (List.mem_of_getElem? (i := 305) rfl) rfl) (lwG_in (List.mem_of_getElem? (i := 120) rfl) rfl) (by decide) (show shp (490) = _ from rfl) (zR20 (490) (by omega)) (by decide +kernel) ?_
  show G Γ m_FB_init (d + 2) (56, 2507) _ 122 [.ref 32] [.ref 490, .ref 32] (I10, L, R20, 491)
  refine run_ok (pc' := 123) [(.dup, 0, 0, 0)] _ _ _ _ (by decide +kernel) ?_
  show G Γ m_FB_init (d + 2) (56, 2507) _ 123 [.ref 32] [.ref 490, .ref 490, .ref 32] (I10, L, R20, 491)
  refine g_invIN (M := m_FB_init) (i := 78) (As := []) (b1 := 54) (b2 := 2483) l_10_78 (by decide +kernel) rfl (dk_Lo_init _) (Nat.le_of_ble_eq_true rfl) (C_Lo_init (by omega) (fun q hq => zR20 q (Nat.le_trans (by omega) hq))) ?_
  rintro _ _ ⟨rfl, rfl⟩ -
  show G Γ m_FB_init (d + 2) (54, 2483) _ 126 [.ref 32] [.ref 490, .ref 32] (I10, L, (up2 (up2 R20 490 0 (some 491)) 490 1 (some 492)), 493)
  obtain ⟨R21, eR21⟩ : ∃ r, r = up2 (up2 R20 490 0 (some 491)) 490 1 (some 492) := ⟨_, rfl⟩
  rw [← eR21]
  have zR21 : Zr (I10, L, R21, 493) (493) := by rw [eR21]; exact Zr.f (fun q hq j => (up2_out (by omega)).trans (up2_out (by omega))) (by omega) zR20
  refine g_pf (i := 79) (k := 14) (ci := 10) (by decide +kernel) ⟨rfl, show 32 < 493 by omega⟩ ?_
  show G Γ m_FB_init (d + 2) (54, 2483) _ 129 [.ref 32] [] (I10, L, (up2 R21 32 14 (some 490)), 493)
  obtain ⟨R22, eR22⟩ : ∃ r, r = up2 R21 32 14 (some 490) := ⟨_, rfl⟩
  rw [← eR22]
  have zR22 : Zr (I10, L, R22, 493) (493) := by rw [eR22]; exact Zr.f (fun q hq j => up2_out (by omega)) (by omega) zR21
  refine run_ok (pc' := 130) [(.aload_n 0, 0, 0, 0)] _ _ _ _ (by decide +kernel) ?_
  show G Γ m_FB_init (d + 2) (54, 2483) _ 130 [.ref 32] [.ref 32] (I10, L, R22, 493)
  refine g_new (ci := 5) (n := 6) (b1 := 53) (b2 := 2477) rfl (lwG_in (List.mem_of_getElem? (i := 321) rfl) rfl) (lwG_in (List.mem_of_getElem? (i := 322) rfl) rfl) (lwG_in (List.mem_of_getElem? (i := 121) rfl) rfl) (by decide) (show shp (493) = _ from rfl) (zR22 (493) (by omega)) (by decide +kernel) ?_
  show G Γ m_FB_init (d + 2) (53, 2477) _ 133 [.ref 32] [.ref 493, .ref 32] (I10, L, R22, 494)
  refine run_ok (pc' := 134) [(.dup, 0, 0, 0)] _ _ _ _ (by decide +kernel) ?_
  show G Γ m_FB_init (d + 2) (53, 2477) _ 134 [.ref 32] [.ref 493, .ref 493, .ref 32] (I10, L, R22, 494)
  refine g_invIN (M := m_FB_init) (i := 85) (As := []) (b1 := 48) (b2 := 2435) l_10_85 (by decide +kernel) rfl (dk_Pa_init _) (Nat.le_of_ble_eq_true rfl) (C_Pa_init (by omega) (fun q hq => zR22 q (Nat.le_trans (by omega) hq))) ?_
  rintro _ _ ⟨rfl, rfl⟩ -
  show G Γ m_FB_init (d + 2) (48, 2435) _ 137 [.ref 32] [.ref 493, .ref 32] (I10, L, (up2 (up2 (up2 (up2 (up2 R22 493 0 (some 494)) 493 1 (some 495)) 493 2 (some 496)) 493 3 (some 497)) 493 4 (some 498)), 499)
  obtain ⟨R23, eR23⟩ : ∃ r, r = up2 (up2 (up2 (up2 (up2 R22 493 0 (some 494)) 493 1 (some 495)) 493 2 (some 496)) 493 3 (some 497)) 493 4 (some 498) := ⟨_, rfl⟩
  rw [← eR23]
  have zR23 : Zr (I10, L, R23, 499) (499) := by rw [eR23]; exact Zr.f (fun q hq j => by rw [up2_out (by omega), up2_out (by omega), up2_out (by omega), up2_out (by omega), up2_out (by omega)]) (by omega) zR22
  refine g_pf (i := 86) (k := 15) (ci := 10) (by decide +kernel) ⟨rfl, show 32 < 499 by omega⟩ ?_
  show G Γ m_FB_init (d + 2) (48, 2435) _ 140 [.ref 32] [] (I10, L, (up2 R23 32 15 (some 493)), 499)
  obtain ⟨R24, eR24⟩ : ∃ r, r = up2 R23 32 15 (some 493) := ⟨_, rfl⟩
  rw [← eR24]
  have zR24 : Zr (I10, L, R24, 499) (499) := by rw [eR24]; exact Zr.f (fun q hq j => up2_out (by omega)) (by omega) zR23
  refine run_ok (pc' := 144) [(.aload_n 0, 0, 0, 0), (.sipush 256, 0, 0, 0)] _ _ _ _ (by decide +kernel) ?_
  show G Γ m_FB_init (d + 2) (48, 2435) _ 144 [.ref 32] [.int (w 256), .ref 32] (I10, L, R24, 499)
  refine g_newa (atype := .int) (t := 0) (n := 256) (b1 := 47) (b2 := 2179) rfl (by decide) acl_0 (show shp (499) = _ from rfl) (zR24 (499) (by omega)) (by decide +kernel) ?_
  show G Γ m_FB_init (d + 2) (47, 2179) _ 146 [.ref 32] [.ref 499, .ref 32] (I10, L, R24, 500)
  refine g_pf (i := 90) (k := 16) (ci := 10) (by decide +kernel) ⟨rfl, show 32 < 500 by omega⟩ ?_
  show G Γ m_FB_init (d + 2) (47, 2179) _ 149 [.ref 32] [] (I10, L, (up2 R24 32 16 (some 499)), 500)
  obtain ⟨R25, eR25⟩ : ∃ r, r = up2 R24 32 16 (some 499) := ⟨_, rfl⟩
  rw [← eR25]
  have zR25 : Zr (I10, L, R25, 500) (500) := by rw [eR25]; exact Zr.f (fun q hq j => up2_out (by omega)) (by omega) zR24
  refine run_ok (pc' := 153) [(.aload_n 0, 0, 0, 0), (.sipush 256, 0, 0, 0)] _ _ _ _ (by decide +kernel) ?_
  show G Γ m_FB_init (d + 2) (47, 2179) _ 153 [.ref 32] [.int (w 256), .ref 32] (I10, L, R25, 500)
  refine g_newa (atype := .int) (t := 0) (n := 256) (b1 := 46) (b2 := 1923) rfl (by decide) acl_0 (show shp (500) = _ from rfl) (zR25 (500) (by omega)) (by decide +kernel) ?_
  show G Γ m_FB_init (d + 2) (46, 1923) _ 155 [.ref 32] [.ref 500, .ref 32] (I10, L, R25, 501)
  refine g_pf (i := 94) (k := 17) (ci := 10) (by decide +kernel) ⟨rfl, show 32 < 501 by omega⟩ ?_
  show G Γ m_FB_init (d + 2) (46, 1923) _ 158 [.ref 32] [] (I10, L, (up2 R25 32 17 (some 500)), 501)
  obtain ⟨R26, eR26⟩ : ∃ r, r = up2 R25 32 17 (some 500) := ⟨_, rfl⟩
  rw [← eR26]
  have zR26 : Zr (I10, L, R26, 501) (501) := by rw [eR26]; exact Zr.f (fun q hq j => up2_out (by omega)) (by omega) zR25
  refine run_ok (pc' := 161) [(.aload_n 0, 0, 0, 0), (.bipush 8, 0, 0, 0)] _ _ _ _ (by decide +kernel) ?_
  show G Γ m_FB_init (d + 2) (46, 1923) _ 161 [.ref 32] [.int (w 8), .ref 32] (I10, L, R26, 501)
  refine g_newa (atype := .int) (t := 0) (n := 8) (b1 := 45) (b2 := 1915) rfl (by decide) acl_0 (show shp (501) = _ from rfl) (zR26 (501) (by omega)) (by decide +kernel) ?_
  show G Γ m_FB_init (d + 2) (45, 1915) _ 163 [.ref 32] [.ref 501, .ref 32] (I10, L, R26, 502)
  refine g_pf (i := 97) (k := 18) (ci := 10) (by decide +kernel) ⟨rfl, show 32 < 502 by omega⟩ ?_
  show G Γ m_FB_init (d + 2) (45, 1915) _ 166 [.ref 32] [] (I10, L, (up2 R26 32 18 (some 501)), 502)
  obtain ⟨R27, eR27⟩ : ∃ r, r = up2 R26 32 18 (some 501) := ⟨_, rfl⟩
  rw [← eR27]
  have zR27 : Zr (I10, L, R27, 502) (502) := by rw [eR27]; exact Zr.f (fun q hq j => up2_out (by omega)) (by omega) zR26
  refine run_ok (pc' := 168) [(.iconst 0, 0, 0, 0), (.istore_n 1, 0, 0, 0)] _ _ _ _ (by decide +kernel) ?_
  show G Γ m_FB_init (d + 2) (45, 1915) _ 168 [.ref 32, .int (w 0)] [] (I10, L, R27, 502)
  refine FB_loop (R := R27) (by rw [eR27, eR26, eR25, eR24, eR23, eR22, eR21, eR20, eR19, eR18, eR17, eR16, eR15, eR14, eR13, eR12, eR11, eR9, eR7, eR6, eR5, eR4, eR3, eR2, eR1]; rfl) (by rw [eR27, eR26, eR25, eR24, eR23, eR22, eR21, eR20, eR19, eR18, eR17, eR16, eR15, eR14, eR13, eR12, eR11, eR9, eR7, eR6, eR5, eR4, eR3, eR2, eR1]; rfl) 5 0 (by omega) zR27 ⟨rfl, ?_⟩
  rw [eR27, eR26, eR25, eR24, eR23, eR22, eR21, eR20, eR19, eR18, eR17, eR16, eR15, eR14, eR13, eR12, eR11, eI10, eR9, eI8, eR7, eR6, eR5, eR4, eR3, eR2, eI1, eR1]
  rfl
def m_MO_init : MM := (11, ⟨"FrostBoxModel", "<init>", "()V"⟩, prog_13_method_1_code, 1, none, 25, 30380)
theorem ok_MO_init : mOK m_MO_init := ⟨by decide +kernel, by decide +kernel⟩
theorem dk_MO_init (d : Nat) : dOK (d + 1) d m_MO_init := ⟨Nat.le_refl _, by show 19 + 1 + 40 * d ≤ 40 * (d + 1); omega⟩
set_option maxRecDepth 100000 in
theorem lc_MO_init : LkC m_MO_init 0 := ⟨lwG_in (List.mem_of_getElem? (i := 1202) rfl) rfl, lwG_in (List.mem_of_getElem? (i := 124) rfl) rfl, by decide +kernel, by decide +kernel, by decide +kernel⟩
def moR (R : RR) : RR := up2 (up2 (up2 (up2 (up2 (up2 (up2 (up2 (up2 (up2 (up2 (up2 (up2 (up2 (up2 (up2 (up2 (up2 (up2 (up2 (up2 (up2 (up2 (up2 (up2 (up2 (up2 (up2 R 547 1 (some 548)) 547 2 (some 549)) 547 3 (some 550)) 547 4 (some 551)) 547 5 (some 548)) 547 15 (some 14)) 547 16 (some 15)) 547 18 (some 552)) 547 19 (some 553)) 547 20 (some 554)) 547 21 (some 555)) 547 22 (some 556)) 547 23 (some 557)) 547 24 (some 558)) 547 30 (some 559)) 547 31 (some 560)) 547 34 (some 561)) 547 35 (some 562)) 547 36 (some 563)) 547 41 (some 564)) 547 42 (some 565)) 547 44 (some 566)) 547 45 (some 567)) 547 46 (some 568)) 547 47 (some 569)) 547 48 (some 570)) 547 49 (some 571)) 547 54 (some 572)
def moI (I : RI4) : RI4 := up2 (up2 I 547 32 (w (-1))) 547 33 (w 5)
set_option maxRecDepth 100000 in
theorem C_MO_init {Γ : XG} {d : Nat} {I : RI4} {L : RJ} {R : RR} (hd : 1 ≤ d) (hz : Zr (I, L, R, 548) (548)) : Call Γ m_MO_init d [.ref 547] (I, L, R, 548) (KV (fun μ' => μ' = (moI I, L, moR R, 573))) := by
  obtain ⟨d, rfl⟩ : ∃ e, d = e + 1 := ⟨d - 1, by omega⟩
  refine Call.of ok_MO_init (Nat.le_of_ble_eq_true rfl) ?_
  show G Γ m_MO_init (d + 1) (25, 30380) _ 0 [.ref 547] [] (I, L, R, 548)
  refine run_ok (pc' := 1) [(.aload_n 0, 0, 0, 0)] _ _ _ _ (by decide +kernel) ?_
  show G Γ m_MO_init (d + 1) (25, 30380) _ 1 [.ref 547] [.ref 547] (I, L, R, 548)
  refine g_objInit (lwG_in (List.mem_of_getElem? (i := 1203) rfl) rfl) hwO (Nat.le_of_ble_eq_true rfl) (by decide +kernel) ?_
  show G Γ m_MO_init (d + 1) (25, 30380) _ 4 [.ref 547] [] (I, L, R, 548)
  refine run_ok (pc' := 8) [(.aload_n 0, 0, 0, 0), (.sipush 240, 0, 0, 0)] _ _ _ _ (by decide +kernel) ?_
  show G Γ m_MO_init (d + 1) (25, 30380) _ 8 [.ref 547] [.int (w 240), .ref 547] (I, L, R, 548)
  refine g_newa (atype := .byte) (t := 1) (n := 240) (b1 := 24) (b2 := 30140) rfl (by decide) acl_1 (show shp (548) = _ from rfl) (hz (548) (by omega)) (by decide +kernel) ?_
  show G Γ m_MO_init (d + 1) (24, 30140) _ 10 [.ref 547] [.ref 548, .ref 547] (I, L, R, 549)
  refine g_pf (i := 9) (k := 1) (ci := 11) (by decide +kernel) ⟨rfl, show 547 < 549 by omega⟩ ?_
  show G Γ m_MO_init (d + 1) (24, 30140) _ 13 [.ref 547] [] (I, L, (up2 R 547 1 (some 548)), 549)
  obtain ⟨R1, eR1⟩ : ∃ r, r = up2 R 547 1 (some 548) := ⟨_, rfl⟩
  rw [← eR1]
  have zR1 : Zr (I, L, R1, 549) (549) := by rw [eR1]; exact Zr.f (fun q hq j => up2_out (by omega)) (by omega) hz
  refine run_ok (pc' := 17) [(.aload_n 0, 0, 0, 0), (.sipush 960, 0, 0, 0)] _ _ _ _ (by decide +kernel) ?_
  show G Γ m_MO_init (d + 1) (24, 30140) _ 17 [.ref 547] [.int (w 960), .ref 547] (I, L, R1, 549)
  refine g_newa (atype := .byte) (t := 1) (n := 960) (b1 := 23) (b2 := 29180) rfl (by decide) acl_1 (show shp (549) = _ from rfl) (zR1 (549) (by omega)) (by decide +kernel) ?_
  show G Γ m_MO_init (d + 1) (23, 29180) _ 19 [.ref 547] [.ref 549, .ref 547] (I, L, R1, 550)
  refine g_pf (i := 13) (k := 2) (ci := 11) (by decide +kernel) ⟨rfl, show 547 < 550 by omega⟩ ?_
  show G Γ m_MO_init (d + 1) (23, 29180) _ 22 [.ref 547] [] (I, L, (up2 R1 547 2 (some 549)), 550)
  obtain ⟨R2, eR2⟩ : ∃ r, r = up2 R1 547 2 (some 549) := ⟨_, rfl⟩
  rw [← eR2]
  have zR2 : Zr (I, L, R2, 550) (550) := by rw [eR2]; exact Zr.f (fun q hq j => up2_out (by omega)) (by omega) zR1
  refine run_ok (pc' := 24) [(.aload_n 0, 0, 0, 0), (.iconst 4, 0, 0, 0)] _ _ _ _ (by decide +kernel) ?_
  show G Γ m_MO_init (d + 1) (23, 29180) _ 24 [.ref 547] [.int (w 4), .ref 547] (I, L, R2, 550)
  refine g_newa (atype := .int) (t := 0) (n := 4) (b1 := 22) (b2 := 29176) rfl (by decide) acl_0 (show shp (550) = _ from rfl) (zR2 (550) (by omega)) (by decide +kernel) ?_
  show G Γ m_MO_init (d + 1) (22, 29176) _ 26 [.ref 547] [.ref 550, .ref 547] (I, L, R2, 551)
  refine g_pf (i := 16) (k := 3) (ci := 11) (by decide +kernel) ⟨rfl, show 547 < 551 by omega⟩ ?_
  show G Γ m_MO_init (d + 1) (22, 29176) _ 29 [.ref 547] [] (I, L, (up2 R2 547 3 (some 550)), 551)
  obtain ⟨R3, eR3⟩ : ∃ r, r = up2 R2 547 3 (some 550) := ⟨_, rfl⟩
  rw [← eR3]
  have zR3 : Zr (I, L, R3, 551) (551) := by rw [eR3]; exact Zr.f (fun q hq j => up2_out (by omega)) (by omega) zR2
  refine run_ok (pc' := 33) [(.aload_n 0, 0, 0, 0), (.sipush 128, 0, 0, 0)] _ _ _ _ (by decide +kernel) ?_
  show G Γ m_MO_init (d + 1) (22, 29176) _ 33 [.ref 547] [.int (w 128), .ref 547] (I, L, R3, 551)
  refine g_newa (atype := .int) (t := 0) (n := 128) (b1 := 21) (b2 := 29048) rfl (by decide) acl_0 (show shp (551) = _ from rfl) (zR3 (551) (by omega)) (by decide +kernel) ?_
  show G Γ m_MO_init (d + 1) (21, 29048) _ 35 [.ref 547] [.ref 551, .ref 547] (I, L, R3, 552)
  refine g_pf (i := 20) (k := 4) (ci := 11) (by decide +kernel) ⟨rfl, show 547 < 552 by omega⟩ ?_
  show G Γ m_MO_init (d + 1) (21, 29048) _ 38 [.ref 547] [] (I, L, (up2 R3 547 4 (some 551)), 552)
  obtain ⟨R4, eR4⟩ : ∃ r, r = up2 R3 547 4 (some 551) := ⟨_, rfl⟩
  rw [← eR4]
  have zR4 : Zr (I, L, R4, 552) (552) := by rw [eR4]; exact Zr.f (fun q hq j => up2_out (by omega)) (by omega) zR3
  refine run_ok (pc' := 43) [(.aload_n 0, 0, 0, 0), (.aload_n 0, 0, 0, 0), (.getfield 9, 11, 1, 2)] _ _ _ _ (by decide +kernel) ?_
  show _ ∧ (∃ _, _ ∧ (_))
  refine ⟨⟨rfl, show 547 < 552 by omega⟩, 548, (by show R4 547 1 = _; rw [eR4, eR3, eR2, eR1]; rfl), ?_⟩
  show G Γ m_MO_init (d + 1) (21, 29048) _ 43 [.ref 547] [.ref 548, .ref 547] (I, L, R4, 552)
  refine g_pf (i := 23) (k := 5) (ci := 11) (by decide +kernel) ⟨rfl, show 547 < 552 by omega⟩ ?_
  show G Γ m_MO_init (d + 1) (21, 29048) _ 46 [.ref 547] [] (I, L, (up2 R4 547 5 (some 548)), 552)
  obtain ⟨R5, eR5⟩ : ∃ r, r = up2 R4 547 5 (some 548) := ⟨_, rfl⟩
  rw [← eR5]
  have zR5 : Zr (I, L, R5, 552) (552) := by rw [eR5]; exact Zr.f (fun q hq j => up2_out (by omega)) (by omega) zR4
  refine run_ok (pc' := 49) [(.aload_n 0, 0, 0, 0), (.ldc 26, 1, 0, 0)] _ _ _ _ (by decide +kernel) ?_
  show G Γ m_MO_init (d + 1) (21, 29048) _ 49 [.ref 547] [.ref 14, .ref 547] (I, L, R5, 552)
  refine g_pf (i := 28) (k := 15) (ci := 11) (by decide +kernel) ⟨rfl, show 547 < 552 by omega⟩ ?_
  show G Γ m_MO_init (d + 1) (21, 29048) _ 52 [.ref 547] [] (I, L, (up2 R5 547 15 (some 14)), 552)
  obtain ⟨R6, eR6⟩ : ∃ r, r = up2 R5 547 15 (some 14) := ⟨_, rfl⟩
  rw [← eR6]
  have zR6 : Zr (I, L, R6, 552) (552) := by rw [eR6]; exact Zr.f (fun q hq j => up2_out (by omega)) (by omega) zR5
  refine run_ok (pc' := 55) [(.aload_n 0, 0, 0, 0), (.ldc 32, 1, 1, 0)] _ _ _ _ (by decide +kernel) ?_
  show G Γ m_MO_init (d + 1) (21, 29048) _ 55 [.ref 547] [.ref 15, .ref 547] (I, L, R6, 552)
  refine g_pf (i := 34) (k := 16) (ci := 11) (by decide +kernel) ⟨rfl, show 547 < 552 by omega⟩ ?_
  show G Γ m_MO_init (d + 1) (21, 29048) _ 58 [.ref 547] [] (I, L, (up2 R6 547 16 (some 15)), 552)
  obtain ⟨R7, eR7⟩ : ∃ r, r = up2 R6 547 16 (some 15) := ⟨_, rfl⟩
  rw [← eR7]
  have zR7 : Zr (I, L, R7, 552) (552) := by rw [eR7]; exact Zr.f (fun q hq j => up2_out (by omega)) (by omega) zR6
  refine run_ok (pc' := 60) [(.aload_n 0, 0, 0, 0), (.iconst 4, 0, 0, 0)] _ _ _ _ (by decide +kernel) ?_
  show G Γ m_MO_init (d + 1) (21, 29048) _ 60 [.ref 547] [.int (w 4), .ref 547] (I, L, R7, 552)
  refine g_newa (atype := .int) (t := 0) (n := 4) (b1 := 20) (b2 := 29044) rfl (by decide) acl_0 (show shp (552) = _ from rfl) (zR7 (552) (by omega)) (by decide +kernel) ?_
  show G Γ m_MO_init (d + 1) (20, 29044) _ 62 [.ref 547] [.ref 552, .ref 547] (I, L, R7, 553)
  refine g_pf (i := 37) (k := 18) (ci := 11) (by decide +kernel) ⟨rfl, show 547 < 553 by omega⟩ ?_
  show G Γ m_MO_init (d + 1) (20, 29044) _ 65 [.ref 547] [] (I, L, (up2 R7 547 18 (some 552)), 553)
  obtain ⟨R8, eR8⟩ : ∃ r, r = up2 R7 547 18 (some 552) := ⟨_, rfl⟩
  rw [← eR8]
  have zR8 : Zr (I, L, R8, 553) (553) := by rw [eR8]; exact Zr.f (fun q hq j => up2_out (by omega)) (by omega) zR7
  refine run_ok (pc' := 67) [(.aload_n 0, 0, 0, 0), (.iconst 4, 0, 0, 0)] _ _ _ _ (by decide +kernel) ?_
  show G Γ m_MO_init (d + 1) (20, 29044) _ 67 [.ref 547] [.int (w 4), .ref 547] (I, L, R8, 553)
  refine g_newa (atype := .int) (t := 0) (n := 4) (b1 := 19) (b2 := 29040) rfl (by decide) acl_0 (show shp (553) = _ from rfl) (zR8 (553) (by omega)) (by decide +kernel) ?_
  show G Γ m_MO_init (d + 1) (19, 29040) _ 69 [.ref 547] [.ref 553, .ref 547] (I, L, R8, 554)
  refine g_pf (i := 40) (k := 19) (ci := 11) (by decide +kernel) ⟨rfl, show 547 < 554 by omega⟩ ?_
  show G Γ m_MO_init (d + 1) (19, 29040) _ 72 [.ref 547] [] (I, L, (up2 R8 547 19 (some 553)), 554)
  obtain ⟨R9, eR9⟩ : ∃ r, r = up2 R8 547 19 (some 553) := ⟨_, rfl⟩
  rw [← eR9]
  have zR9 : Zr (I, L, R9, 554) (554) := by rw [eR9]; exact Zr.f (fun q hq j => up2_out (by omega)) (by omega) zR8
  refine run_ok (pc' := 75) [(.aload_n 0, 0, 0, 0), (.bipush 30, 0, 0, 0)] _ _ _ _ (by decide +kernel) ?_
  show G Γ m_MO_init (d + 1) (19, 29040) _ 75 [.ref 547] [.int (w 30), .ref 547] (I, L, R9, 554)
  refine g_newa (atype := .int) (t := 0) (n := 30) (b1 := 18) (b2 := 29010) rfl (by decide) acl_0 (show shp (554) = _ from rfl) (zR9 (554) (by omega)) (by decide +kernel) ?_
  show G Γ m_MO_init (d + 1) (18, 29010) _ 77 [.ref 547] [.ref 554, .ref 547] (I, L, R9, 555)
  refine g_pf (i := 43) (k := 20) (ci := 11) (by decide +kernel) ⟨rfl, show 547 < 555 by omega⟩ ?_
  show G Γ m_MO_init (d + 1) (18, 29010) _ 80 [.ref 547] [] (I, L, (up2 R9 547 20 (some 554)), 555)
  obtain ⟨R10, eR10⟩ : ∃ r, r = up2 R9 547 20 (some 554) := ⟨_, rfl⟩
  rw [← eR10]
  have zR10 : Zr (I, L, R10, 555) (555) := by rw [eR10]; exact Zr.f (fun q hq j => up2_out (by omega)) (by omega) zR9
  refine run_ok (pc' := 83) [(.aload_n 0, 0, 0, 0), (.bipush 30, 0, 0, 0)] _ _ _ _ (by decide +kernel) ?_
  show G Γ m_MO_init (d + 1) (18, 29010) _ 83 [.ref 547] [.int (w 30), .ref 547] (I, L, R10, 555)
  refine g_newa (atype := .int) (t := 0) (n := 30) (b1 := 17) (b2 := 28980) rfl (by decide) acl_0 (show shp (555) = _ from rfl) (zR10 (555) (by omega)) (by decide +kernel) ?_
  show G Γ m_MO_init (d + 1) (17, 28980) _ 85 [.ref 547] [.ref 555, .ref 547] (I, L, R10, 556)
  refine g_pf (i := 46) (k := 21) (ci := 11) (by decide +kernel) ⟨rfl, show 547 < 556 by omega⟩ ?_
  show G Γ m_MO_init (d + 1) (17, 28980) _ 88 [.ref 547] [] (I, L, (up2 R10 547 21 (some 555)), 556)
  obtain ⟨R11, eR11⟩ : ∃ r, r = up2 R10 547 21 (some 555) := ⟨_, rfl⟩
  rw [← eR11]
  have zR11 : Zr (I, L, R11, 556) (556) := by rw [eR11]; exact Zr.f (fun q hq j => up2_out (by omega)) (by omega) zR10
  refine run_ok (pc' := 91) [(.aload_n 0, 0, 0, 0), (.bipush 32, 0, 0, 0)] _ _ _ _ (by decide +kernel) ?_
  show G Γ m_MO_init (d + 1) (17, 28980) _ 91 [.ref 547] [.int (w 32), .ref 547] (I, L, R11, 556)
  refine g_newa (atype := .int) (t := 0) (n := 32) (b1 := 16) (b2 := 28948) rfl (by decide) acl_0 (show shp (556) = _ from rfl) (zR11 (556) (by omega)) (by decide +kernel) ?_
  show G Γ m_MO_init (d + 1) (16, 28948) _ 93 [.ref 547] [.ref 556, .ref 547] (I, L, R11, 557)
  refine g_pf (i := 49) (k := 22) (ci := 11) (by decide +kernel) ⟨rfl, show 547 < 557 by omega⟩ ?_
  show G Γ m_MO_init (d + 1) (16, 28948) _ 96 [.ref 547] [] (I, L, (up2 R11 547 22 (some 556)), 557)
  obtain ⟨R12, eR12⟩ : ∃ r, r = up2 R11 547 22 (some 556) := ⟨_, rfl⟩
  rw [← eR12]
  have zR12 : Zr (I, L, R12, 557) (557) := by rw [eR12]; exact Zr.f (fun q hq j => up2_out (by omega)) (by omega) zR11
  refine run_ok (pc' := 100) [(.aload_n 0, 0, 0, 0), (.sipush 320, 0, 0, 0)] _ _ _ _ (by decide +kernel) ?_
  show G Γ m_MO_init (d + 1) (16, 28948) _ 100 [.ref 547] [.int (w 320), .ref 547] (I, L, R12, 557)
  refine g_newa (atype := .int) (t := 0) (n := 320) (b1 := 15) (b2 := 28628) rfl (by decide) acl_0 (show shp (557) = _ from rfl) (zR12 (557) (by omega)) (by decide +kernel) ?_
  show G Γ m_MO_init (d + 1) (15, 28628) _ 102 [.ref 547] [.ref 557, .ref 547] (I, L, R12, 558)
  refine g_pf (i := 52) (k := 23) (ci := 11) (by decide +kernel) ⟨rfl, show 547 < 558 by omega⟩ ?_
  show G Γ m_MO_init (d + 1) (15, 28628) _ 105 [.ref 547] [] (I, L, (up2 R12 547 23 (some 557)), 558)
  obtain ⟨R13, eR13⟩ : ∃ r, r = up2 R12 547 23 (some 557) := ⟨_, rfl⟩
  rw [← eR13]
  have zR13 : Zr (I, L, R13, 558) (558) := by rw [eR13]; exact Zr.f (fun q hq j => up2_out (by omega)) (by omega) zR12
  refine run_ok (pc' := 107) [(.aload_n 0, 0, 0, 0), (.iconst 5, 0, 0, 0)] _ _ _ _ (by decide +kernel) ?_
  show G Γ m_MO_init (d + 1) (15, 28628) _ 107 [.ref 547] [.int (w 5), .ref 547] (I, L, R13, 558)
  refine g_newa (atype := .int) (t := 0) (n := 5) (b1 := 14) (b2 := 28623) rfl (by decide) acl_0 (show shp (558) = _ from rfl) (zR13 (558) (by omega)) (by decide +kernel) ?_
  show G Γ m_MO_init (d + 1) (14, 28623) _ 109 [.ref 547] [.ref 558, .ref 547] (I, L, R13, 559)
  refine g_pf (i := 55) (k := 24) (ci := 11) (by decide +kernel) ⟨rfl, show 547 < 559 by omega⟩ ?_
  show G Γ m_MO_init (d + 1) (14, 28623) _ 112 [.ref 547] [] (I, L, (up2 R13 547 24 (some 558)), 559)
  obtain ⟨R14, eR14⟩ : ∃ r, r = up2 R13 547 24 (some 558) := ⟨_, rfl⟩
  rw [← eR14]
  have zR14 : Zr (I, L, R14, 559) (559) := by rw [eR14]; exact Zr.f (fun q hq j => up2_out (by omega)) (by omega) zR13
  refine run_ok (pc' := 116) [(.aload_n 0, 0, 0, 0), (.sipush 283, 0, 0, 0)] _ _ _ _ (by decide +kernel) ?_
  show G Γ m_MO_init (d + 1) (14, 28623) _ 116 [.ref 547] [.int (w 283), .ref 547] (I, L, R14, 559)
  refine g_newa (atype := .int) (t := 0) (n := 283) (b1 := 13) (b2 := 28340) rfl (by decide) acl_0 (show shp (559) = _ from rfl) (zR14 (559) (by omega)) (by decide +kernel) ?_
  show G Γ m_MO_init (d + 1) (13, 28340) _ 118 [.ref 547] [.ref 559, .ref 547] (I, L, R14, 560)
  refine g_pf (i := 58) (k := 30) (ci := 11) (by decide +kernel) ⟨rfl, show 547 < 560 by omega⟩ ?_
  show G Γ m_MO_init (d + 1) (13, 28340) _ 121 [.ref 547] [] (I, L, (up2 R14 547 30 (some 559)), 560)
  obtain ⟨R15, eR15⟩ : ∃ r, r = up2 R14 547 30 (some 559) := ⟨_, rfl⟩
  rw [← eR15]
  have zR15 : Zr (I, L, R15, 560) (560) := by rw [eR15]; exact Zr.f (fun q hq j => up2_out (by omega)) (by omega) zR14
  refine run_ok (pc' := 125) [(.aload_n 0, 0, 0, 0), (.sipush 283, 0, 0, 0)] _ _ _ _ (by decide +kernel) ?_
  show G Γ m_MO_init (d + 1) (13, 28340) _ 125 [.ref 547] [.int (w 283), .ref 547] (I, L, R15, 560)
  refine g_newa (atype := .int) (t := 0) (n := 283) (b1 := 12) (b2 := 28057) rfl (by decide) acl_0 (show shp (560) = _ from rfl) (zR15 (560) (by omega)) (by decide +kernel) ?_
  show G Γ m_MO_init (d + 1) (12, 28057) _ 127 [.ref 547] [.ref 560, .ref 547] (I, L, R15, 561)
  refine g_pf (i := 61) (k := 31) (ci := 11) (by decide +kernel) ⟨rfl, show 547 < 561 by omega⟩ ?_
  show G Γ m_MO_init (d + 1) (12, 28057) _ 130 [.ref 547] [] (I, L, (up2 R15 547 31 (some 560)), 561)
  obtain ⟨R16, eR16⟩ : ∃ r, r = up2 R15 547 31 (some 560) := ⟨_, rfl⟩
  rw [← eR16]
  have zR16 : Zr (I, L, R16, 561) (561) := by rw [eR16]; exact Zr.f (fun q hq j => up2_out (by omega)) (by omega) zR15
  refine run_ok (pc' := 135) [(.aload_n 0, 0, 0, 0), (.iconst (-1), 0, 0, 0), (.putfield 64, 11, 32, 0)] _ _ _ _ (by decide +kernel) ?_
  show _ ∧ (_)
  refine ⟨⟨rfl, show 547 < 561 by omega⟩, ?_⟩
  show G Γ m_MO_init (d + 1) (12, 28057) _ 135 [.ref 547] [] ((up2 I 547 32 (w (-1))), L, R16, 561)
  obtain ⟨I17, eI17⟩ : ∃ r, r = up2 I 547 32 (w (-1)) := ⟨_, rfl⟩
  rw [← eI17]
  have zI17 : Zr (I17, L, R16, 561) (561) := by rw [eI17]; exact Zr.i (by omega) (by omega) zR16
  refine run_ok (pc' := 140) [(.aload_n 0, 0, 0, 0), (.iconst 5, 0, 0, 0), (.putfield 68, 11, 33, 0)] _ _ _ _ (by decide +kernel) ?_
  show _ ∧ (_)
  refine ⟨⟨rfl, show 547 < 561 by omega⟩, ?_⟩
  show G Γ m_MO_init (d + 1) (12, 28057) _ 140 [.ref 547] [] ((up2 I17 547 33 (w 5)), L, R16, 561)
  obtain ⟨I18, eI18⟩ : ∃ r, r = up2 I17 547 33 (w 5) := ⟨_, rfl⟩
  rw [← eI18]
  have zI18 : Zr (I18, L, R16, 561) (561) := by rw [eI18]; exact Zr.i (by omega) (by omega) zI17
  refine run_ok (pc' := 144) [(.aload_n 0, 0, 0, 0), (.sipush 8191, 0, 0, 0)] _ _ _ _ (by decide +kernel) ?_
  show G Γ m_MO_init (d + 1) (12, 28057) _ 144 [.ref 547] [.int (w 8191), .ref 547] (I18, L, R16, 561)
  refine g_newa (atype := .long) (t := 4) (n := 8191) (b1 := 11) (b2 := 19866) rfl (by decide) acl_4 (show shp (561) = _ from rfl) (zI18 (561) (by omega)) (by decide +kernel) ?_
  show G Γ m_MO_init (d + 1) (11, 19866) _ 146 [.ref 547] [.ref 561, .ref 547] (I18, L, R16, 562)
  refine g_pf (i := 71) (k := 34) (ci := 11) (by decide +kernel) ⟨rfl, show 547 < 562 by omega⟩ ?_
  show G Γ m_MO_init (d + 1) (11, 19866) _ 149 [.ref 547] [] (I18, L, (up2 R16 547 34 (some 561)), 562)
  obtain ⟨R19, eR19⟩ : ∃ r, r = up2 R16 547 34 (some 561) := ⟨_, rfl⟩
  rw [← eR19]
  have zR19 : Zr (I18, L, R19, 562) (562) := by rw [eR19]; exact Zr.f (fun q hq j => up2_out (by omega)) (by omega) zI18
  refine run_ok (pc' := 153) [(.aload_n 0, 0, 0, 0), (.sipush 8191, 0, 0, 0)] _ _ _ _ (by decide +kernel) ?_
  show G Γ m_MO_init (d + 1) (11, 19866) _ 153 [.ref 547] [.int (w 8191), .ref 547] (I18, L, R19, 562)
  refine g_newa (atype := .int) (t := 0) (n := 8191) (b1 := 10) (b2 := 11675) rfl (by decide) acl_0 (show shp (562) = _ from rfl) (zR19 (562) (by omega)) (by decide +kernel) ?_
  show G Γ m_MO_init (d + 1) (10, 11675) _ 155 [.ref 547] [.ref 562, .ref 547] (I18, L, R19, 563)
  refine g_pf (i := 75) (k := 35) (ci := 11) (by decide +kernel) ⟨rfl, show 547 < 563 by omega⟩ ?_
  show G Γ m_MO_init (d + 1) (10, 11675) _ 158 [.ref 547] [] (I18, L, (up2 R19 547 35 (some 562)), 563)
  obtain ⟨R20, eR20⟩ : ∃ r, r = up2 R19 547 35 (some 562) := ⟨_, rfl⟩
  rw [← eR20]
  have zR20 : Zr (I18, L, R20, 563) (563) := by rw [eR20]; exact Zr.f (fun q hq j => up2_out (by omega)) (by omega) zR19
  refine run_ok (pc' := 162) [(.aload_n 0, 0, 0, 0), (.sipush 11320, 0, 0, 0)] _ _ _ _ (by decide +kernel) ?_
  show G Γ m_MO_init (d + 1) (10, 11675) _ 162 [.ref 547] [.int (w 11320), .ref 547] (I18, L, R20, 563)
  refine g_newa (atype := .int) (t := 0) (n := 11320) (b1 := 9) (b2 := 355) rfl (by decide) acl_0 (show shp (563) = _ from rfl) (zR20 (563) (by omega)) (by decide +kernel) ?_
  show G Γ m_MO_init (d + 1) (9, 355) _ 164 [.ref 547] [.ref 563, .ref 547] (I18, L, R20, 564)
  refine g_pf (i := 78) (k := 36) (ci := 11) (by decide +kernel) ⟨rfl, show 547 < 564 by omega⟩ ?_
  show G Γ m_MO_init (d + 1) (9, 355) _ 167 [.ref 547] [] (I18, L, (up2 R20 547 36 (some 563)), 564)
  obtain ⟨R21, eR21⟩ : ∃ r, r = up2 R20 547 36 (some 563) := ⟨_, rfl⟩
  rw [← eR21]
  have zR21 : Zr (I18, L, R21, 564) (564) := by rw [eR21]; exact Zr.f (fun q hq j => up2_out (by omega)) (by omega) zR20
  refine run_ok (pc' := 170) [(.aload_n 0, 0, 0, 0), (.bipush 12, 0, 0, 0)] _ _ _ _ (by decide +kernel) ?_
  show G Γ m_MO_init (d + 1) (9, 355) _ 170 [.ref 547] [.int (w 12), .ref 547] (I18, L, R21, 564)
  refine g_newa (atype := .int) (t := 0) (n := 12) (b1 := 8) (b2 := 343) rfl (by decide) acl_0 (show shp (564) = _ from rfl) (zR21 (564) (by omega)) (by decide +kernel) ?_
  show G Γ m_MO_init (d + 1) (8, 343) _ 172 [.ref 547] [.ref 564, .ref 547] (I18, L, R21, 565)
  refine g_pf (i := 81) (k := 41) (ci := 11) (by decide +kernel) ⟨rfl, show 547 < 565 by omega⟩ ?_
  show G Γ m_MO_init (d + 1) (8, 343) _ 175 [.ref 547] [] (I18, L, (up2 R21 547 41 (some 564)), 565)
  obtain ⟨R22, eR22⟩ : ∃ r, r = up2 R21 547 41 (some 564) := ⟨_, rfl⟩
  rw [← eR22]
  have zR22 : Zr (I18, L, R22, 565) (565) := by rw [eR22]; exact Zr.f (fun q hq j => up2_out (by omega)) (by omega) zR21
  refine run_ok (pc' := 178) [(.aload_n 0, 0, 0, 0), (.bipush 12, 0, 0, 0)] _ _ _ _ (by decide +kernel) ?_
  show G Γ m_MO_init (d + 1) (8, 343) _ 178 [.ref 547] [.int (w 12), .ref 547] (I18, L, R22, 565)
  refine g_newa (atype := .int) (t := 0) (n := 12) (b1 := 7) (b2 := 331) rfl (by decide) acl_0 (show shp (565) = _ from rfl) (zR22 (565) (by omega)) (by decide +kernel) ?_
  show G Γ m_MO_init (d + 1) (7, 331) _ 180 [.ref 547] [.ref 565, .ref 547] (I18, L, R22, 566)
  refine g_pf (i := 84) (k := 42) (ci := 11) (by decide +kernel) ⟨rfl, show 547 < 566 by omega⟩ ?_
  show G Γ m_MO_init (d + 1) (7, 331) _ 183 [.ref 547] [] (I18, L, (up2 R22 547 42 (some 565)), 566)
  obtain ⟨R23, eR23⟩ : ∃ r, r = up2 R22 547 42 (some 565) := ⟨_, rfl⟩
  rw [← eR23]
  have zR23 : Zr (I18, L, R23, 566) (566) := by rw [eR23]; exact Zr.f (fun q hq j => up2_out (by omega)) (by omega) zR22
  refine run_ok (pc' := 186) [(.aload_n 0, 0, 0, 0), (.bipush 10, 0, 0, 0)] _ _ _ _ (by decide +kernel) ?_
  show G Γ m_MO_init (d + 1) (7, 331) _ 186 [.ref 547] [.int (w 10), .ref 547] (I18, L, R23, 566)
  refine g_newa (atype := .int) (t := 0) (n := 10) (b1 := 6) (b2 := 321) rfl (by decide) acl_0 (show shp (566) = _ from rfl) (zR23 (566) (by omega)) (by decide +kernel) ?_
  show G Γ m_MO_init (d + 1) (6, 321) _ 188 [.ref 547] [.ref 566, .ref 547] (I18, L, R23, 567)
  refine g_pf (i := 87) (k := 44) (ci := 11) (by decide +kernel) ⟨rfl, show 547 < 567 by omega⟩ ?_
  show G Γ m_MO_init (d + 1) (6, 321) _ 191 [.ref 547] [] (I18, L, (up2 R23 547 44 (some 566)), 567)
  obtain ⟨R24, eR24⟩ : ∃ r, r = up2 R23 547 44 (some 566) := ⟨_, rfl⟩
  rw [← eR24]
  have zR24 : Zr (I18, L, R24, 567) (567) := by rw [eR24]; exact Zr.f (fun q hq j => up2_out (by omega)) (by omega) zR23
  refine run_ok (pc' := 194) [(.aload_n 0, 0, 0, 0), (.bipush 10, 0, 0, 0)] _ _ _ _ (by decide +kernel) ?_
  show G Γ m_MO_init (d + 1) (6, 321) _ 194 [.ref 547] [.int (w 10), .ref 547] (I18, L, R24, 567)
  refine g_newa (atype := .int) (t := 0) (n := 10) (b1 := 5) (b2 := 311) rfl (by decide) acl_0 (show shp (567) = _ from rfl) (zR24 (567) (by omega)) (by decide +kernel) ?_
  show G Γ m_MO_init (d + 1) (5, 311) _ 196 [.ref 547] [.ref 567, .ref 547] (I18, L, R24, 568)
  refine g_pf (i := 90) (k := 45) (ci := 11) (by decide +kernel) ⟨rfl, show 547 < 568 by omega⟩ ?_
  show G Γ m_MO_init (d + 1) (5, 311) _ 199 [.ref 547] [] (I18, L, (up2 R24 547 45 (some 567)), 568)
  obtain ⟨R25, eR25⟩ : ∃ r, r = up2 R24 547 45 (some 567) := ⟨_, rfl⟩
  rw [← eR25]
  have zR25 : Zr (I18, L, R25, 568) (568) := by rw [eR25]; exact Zr.f (fun q hq j => up2_out (by omega)) (by omega) zR24
  refine run_ok (pc' := 202) [(.aload_n 0, 0, 0, 0), (.bipush 6, 0, 0, 0)] _ _ _ _ (by decide +kernel) ?_
  show G Γ m_MO_init (d + 1) (5, 311) _ 202 [.ref 547] [.int (w 6), .ref 547] (I18, L, R25, 568)
  refine g_newa (atype := .int) (t := 0) (n := 6) (b1 := 4) (b2 := 305) rfl (by decide) acl_0 (show shp (568) = _ from rfl) (zR25 (568) (by omega)) (by decide +kernel) ?_
  show G Γ m_MO_init (d + 1) (4, 305) _ 204 [.ref 547] [.ref 568, .ref 547] (I18, L, R25, 569)
  refine g_pf (i := 93) (k := 46) (ci := 11) (by decide +kernel) ⟨rfl, show 547 < 569 by omega⟩ ?_
  show G Γ m_MO_init (d + 1) (4, 305) _ 207 [.ref 547] [] (I18, L, (up2 R25 547 46 (some 568)), 569)
  obtain ⟨R26, eR26⟩ : ∃ r, r = up2 R25 547 46 (some 568) := ⟨_, rfl⟩
  rw [← eR26]
  have zR26 : Zr (I18, L, R26, 569) (569) := by rw [eR26]; exact Zr.f (fun q hq j => up2_out (by omega)) (by omega) zR25
  refine run_ok (pc' := 210) [(.aload_n 0, 0, 0, 0), (.bipush 6, 0, 0, 0)] _ _ _ _ (by decide +kernel) ?_
  show G Γ m_MO_init (d + 1) (4, 305) _ 210 [.ref 547] [.int (w 6), .ref 547] (I18, L, R26, 569)
  refine g_newa (atype := .int) (t := 0) (n := 6) (b1 := 3) (b2 := 299) rfl (by decide) acl_0 (show shp (569) = _ from rfl) (zR26 (569) (by omega)) (by decide +kernel) ?_
  show G Γ m_MO_init (d + 1) (3, 299) _ 212 [.ref 547] [.ref 569, .ref 547] (I18, L, R26, 570)
  refine g_pf (i := 96) (k := 47) (ci := 11) (by decide +kernel) ⟨rfl, show 547 < 570 by omega⟩ ?_
  show G Γ m_MO_init (d + 1) (3, 299) _ 215 [.ref 547] [] (I18, L, (up2 R26 547 47 (some 569)), 570)
  obtain ⟨R27, eR27⟩ : ∃ r, r = up2 R26 547 47 (some 569) := ⟨_, rfl⟩
  rw [← eR27]
  have zR27 : Zr (I18, L, R27, 570) (570) := by rw [eR27]; exact Zr.f (fun q hq j => up2_out (by omega)) (by omega) zR26
  refine run_ok (pc' := 218) [(.aload_n 0, 0, 0, 0), (.bipush 6, 0, 0, 0)] _ _ _ _ (by decide +kernel) ?_
  show G Γ m_MO_init (d + 1) (3, 299) _ 218 [.ref 547] [.int (w 6), .ref 547] (I18, L, R27, 570)
  refine g_newa (atype := .int) (t := 0) (n := 6) (b1 := 2) (b2 := 293) rfl (by decide) acl_0 (show shp (570) = _ from rfl) (zR27 (570) (by omega)) (by decide +kernel) ?_
  show G Γ m_MO_init (d + 1) (2, 293) _ 220 [.ref 547] [.ref 570, .ref 547] (I18, L, R27, 571)
  refine g_pf (i := 99) (k := 48) (ci := 11) (by decide +kernel) ⟨rfl, show 547 < 571 by omega⟩ ?_
  show G Γ m_MO_init (d + 1) (2, 293) _ 223 [.ref 547] [] (I18, L, (up2 R27 547 48 (some 570)), 571)
  obtain ⟨R28, eR28⟩ : ∃ r, r = up2 R27 547 48 (some 570) := ⟨_, rfl⟩
  rw [← eR28]
  have zR28 : Zr (I18, L, R28, 571) (571) := by rw [eR28]; exact Zr.f (fun q hq j => up2_out (by omega)) (by omega) zR27
  refine run_ok (pc' := 226) [(.aload_n 0, 0, 0, 0), (.bipush 10, 0, 0, 0)] _ _ _ _ (by decide +kernel) ?_
  show G Γ m_MO_init (d + 1) (2, 293) _ 226 [.ref 547] [.int (w 10), .ref 547] (I18, L, R28, 571)
  refine g_newa (atype := .boolean) (t := 2) (n := 10) (b1 := 1) (b2 := 283) rfl (by decide) acl_2 (show shp (571) = _ from rfl) (zR28 (571) (by omega)) (by decide +kernel) ?_
  show G Γ m_MO_init (d + 1) (1, 283) _ 228 [.ref 547] [.ref 571, .ref 547] (I18, L, R28, 572)
  refine g_pf (i := 102) (k := 49) (ci := 11) (by decide +kernel) ⟨rfl, show 547 < 572 by omega⟩ ?_
  show G Γ m_MO_init (d + 1) (1, 283) _ 231 [.ref 547] [] (I18, L, (up2 R28 547 49 (some 571)), 572)
  obtain ⟨R29, eR29⟩ : ∃ r, r = up2 R28 547 49 (some 571) := ⟨_, rfl⟩
  rw [← eR29]
  have zR29 : Zr (I18, L, R29, 572) (572) := by rw [eR29]; exact Zr.f (fun q hq j => up2_out (by omega)) (by omega) zR28
  refine run_ok (pc' := 235) [(.aload_n 0, 0, 0, 0), (.sipush 283, 0, 0, 0)] _ _ _ _ (by decide +kernel) ?_
  show G Γ m_MO_init (d + 1) (1, 283) _ 235 [.ref 547] [.int (w 283), .ref 547] (I18, L, R29, 572)
  refine g_newa (atype := .int) (t := 0) (n := 283) (b1 := 0) (b2 := 0) rfl (by decide) acl_0 (show shp (572) = _ from rfl) (zR29 (572) (by omega)) (by decide +kernel) ?_
  show G Γ m_MO_init (d + 1) (0, 0) _ 237 [.ref 547] [.ref 572, .ref 547] (I18, L, R29, 573)
  refine g_pf (i := 106) (k := 54) (ci := 11) (by decide +kernel) ⟨rfl, show 547 < 573 by omega⟩ ?_
  show G Γ m_MO_init (d + 1) (0, 0) _ 240 [.ref 547] [] (I18, L, (up2 R29 547 54 (some 572)), 573)
  obtain ⟨R30, eR30⟩ : ∃ r, r = up2 R29 547 54 (some 572) := ⟨_, rfl⟩
  rw [← eR30]
  have zR30 : Zr (I18, L, R30, 573) (573) := by rw [eR30]; exact Zr.f (fun q hq j => up2_out (by omega)) (by omega) zR29
  exact g_retv (by decide +kernel) rfl ⟨rfl, by rw [eR30, eR29, eR28, eR27, eR26, eR25, eR24, eR23, eR22, eR21, eR20, eR19, eI18, eI17, eR16, eR15, eR14, eR13, eR12, eR11, eR10, eR9, eR8, eR7, eR6, eR5, eR4, eR3, eR2, eR1] <;> rfl⟩
