/-! CONSTRUCTORS (written by wip/tools/genbe.py) -/
def PLs (a : Nat) : Prop := shp a = some (.inl 7) ∧ shp (a + 1) = some (.inr (0, 16)) ∧ shp (a + 2) = some (.inr (0, 16)) ∧ shp (a + 3) = some (.inr (0, 16)) ∧ shp (a + 4) = some (.inr (0, 16))
def MSh (a : Nat) : Prop := shp a = some (.inl 4) ∧ shp (a + 1) = some (.inr (8, 100)) ∧ ∀ j, j < 100 → shp (a + 1 + 1 + j) = some (.inr (0, 4))
theorem MSh_at {a : Nat} (h : a = 280 ∨ a = 388) : MSh a := by
  rcases h with rfl | rfl
  · exact ⟨rfl, rfl, by decide +kernel⟩
  · exact ⟨rfl, rfl, by decide +kernel⟩
theorem HS_at {h : Nat} (q : h = 35 ∨ h = 50) : HS h := q
theorem HS_p {h : Nat} (q : HS h) : PS (h + 10) := by
  rcases q with rfl | rfl <;> exact ⟨by omega, by omega, rfl, rfl, rfl, rfl, rfl⟩
theorem PS_at {a : Nat} (h : a = 67 ∨ a = 72 ∨ a = 383 ∨ (80 ≤ a ∧ a < 280 ∧ a % 5 = 0)) : PS a := by
  rcases h with rfl | rfl | rfl | ⟨h1, h2, h3⟩
  · exact ⟨by omega, by omega, rfl, rfl, rfl, rfl, rfl⟩
  · exact ⟨by omega, by omega, rfl, rfl, rfl, rfl, rfl⟩
  · exact ⟨by omega, by omega, rfl, rfl, rfl, rfl, rfl⟩
  · have q : ∀ i, i < 40 → shp (80 + 5 * i) = some (.inl 6) ∧ shp (80 + 5 * i + 1) = some (.inr (0, 8)) ∧ shp (80 + 5 * i + 2) = some (.inr (0, 8)) ∧ shp (80 + 5 * i + 3) = some (.inr (0, 8)) ∧ shp (80 + 5 * i + 4) = some (.inr (0, 8)) := by decide +kernel
    have q2 := q ((a - 80) / 5) (by omega)
    rw [show 80 + 5 * ((a - 80) / 5) = a by omega] at q2
    exact ⟨by omega, by omega, q2⟩
theorem LSh_at {a : Nat} (h : 502 ≤ a ∧ a < 547 ∧ a % 9 = 7) : LSh a := by
  have q : ∀ i, i < 5 → shp (502 + 9 * i) = some (.inl 2) ∧ shp (502 + 9 * i + 1) = some (.inr (0, 240)) ∧ shp (502 + 9 * i + 2) = some (.inr (0, 6)) ∧ shp (502 + 9 * i + 3) = some (.inr (0, 64)) := by decide +kernel
  have q2 := q ((a - 502) / 9) (by omega)
  rw [show 502 + 9 * ((a - 502) / 9) = a by omega] at q2
  exact ⟨by omega, by omega, q2⟩
theorem PLs_at {a : Nat} (h : 502 ≤ a ∧ a < 547 ∧ a % 9 = 2) : PLs a := by
  have q : ∀ i, i < 5 → shp (506 + 9 * i) = some (.inl 7) ∧ shp (506 + 9 * i + 1) = some (.inr (0, 16)) ∧ shp (506 + 9 * i + 2) = some (.inr (0, 16)) ∧ shp (506 + 9 * i + 3) = some (.inr (0, 16)) ∧ shp (506 + 9 * i + 4) = some (.inr (0, 16)) := by decide +kernel
  have q2 := q ((a - 506) / 9) (by omega)
  rw [show 506 + 9 * ((a - 506) / 9) = a by omega] at q2
  exact q2
def m_Pi_init : MM := (6, ⟨"FrostBox$Pile", "<init>", "()V"⟩, prog_8_method_1_code, 1, none, 4, 32)
theorem ok_Pi_init : mOK m_Pi_init := ⟨by decide +kernel, by decide +kernel⟩
theorem dk_Pi_init (d : Nat) : dOK (d + 1) d m_Pi_init := ⟨Nat.le_refl _, by show 19 + 1 + 40 * d ≤ 40 * (d + 1); omega⟩
set_option maxRecDepth 100000 in
theorem lc_Pi_init : LkC m_Pi_init 0 := ⟨lwG_in (List.mem_of_getElem? (i := 185) rfl) rfl, lwG_in (List.mem_of_getElem? (i := 116) rfl) rfl, by decide +kernel, by decide +kernel, by decide +kernel⟩
set_option maxRecDepth 100000 in
theorem C_Pi_init {Γ : XG} {d a : Nat} {I : RI4} {L : RJ} {R : RR} (hd : 1 ≤ d) (h : PS a) (hz : Zr (I, L, R, a + 1) (a + 1)) : Call Γ m_Pi_init d [.ref a] (I, L, R, a + 1) (KV (fun μ' => μ' = (I, L, pR a R, a + 5))) := by
  obtain ⟨d, rfl⟩ : ∃ e, d = e + 1 := ⟨d - 1, by omega⟩
  refine Call.of ok_Pi_init (Nat.le_of_ble_eq_true rfl) ?_
  show G Γ m_Pi_init (d + 1) (4, 32) _ 0 [.ref a] [] (I, L, R, a + 1)
  refine run_ok (pc' := 1) [(.aload_n 0, 0, 0, 0)] _ _ _ _ (by decide +kernel) ?_
  show G Γ m_Pi_init (d + 1) (4, 32) _ 1 [.ref a] [.ref a] (I, L, R, a + 1)
  refine g_objInit (lwG_in (List.mem_of_getElem? (i := 186) rfl) rfl) hwO (Nat.le_of_ble_eq_true rfl) (by decide +kernel) ?_
  show G Γ m_Pi_init (d + 1) (4, 32) _ 4 [.ref a] [] (I, L, R, a + 1)
  refine run_ok (pc' := 7) [(.aload_n 0, 0, 0, 0), (.bipush 8, 0, 0, 0)] _ _ _ _ (by decide +kernel) ?_
  show G Γ m_Pi_init (d + 1) (4, 32) _ 7 [.ref a] [.int (w 8), .ref a] (I, L, R, a + 1)
  refine g_newa (atype := .int) (t := 0) (n := 8) (b1 := 3) (b2 := 24) rfl (by decide) acl_0 h.2.2.2.1 (hz (a + 1) (by omega)) (by decide +kernel) ?_
  show G Γ m_Pi_init (d + 1) (3, 24) _ 9 [.ref a] [.ref (a + 1), .ref a] (I, L, R, a + 2)
  refine g_pf (i := 9) (k := 0) (ci := 6) (by decide +kernel) ⟨h.2.2.1, show a < a + 2 by omega⟩ ?_
  show G Γ m_Pi_init (d + 1) (3, 24) _ 12 [.ref a] [] (I, L, (up2 R a 0 (some (a + 1))), a + 2)
  obtain ⟨R1, eR1⟩ : ∃ r, r = up2 R a 0 (some (a + 1)) := ⟨_, rfl⟩
  rw [← eR1]
  have zR1 : Zr (I, L, R1, a + 2) (a + 2) := by rw [eR1]; exact Zr.f (fun q hq j => up2_out (by omega)) (by omega) hz
  refine run_ok (pc' := 15) [(.aload_n 0, 0, 0, 0), (.bipush 8, 0, 0, 0)] _ _ _ _ (by decide +kernel) ?_
  show G Γ m_Pi_init (d + 1) (3, 24) _ 15 [.ref a] [.int (w 8), .ref a] (I, L, R1, a + 2)
  refine g_newa (atype := .int) (t := 0) (n := 8) (b1 := 2) (b2 := 16) rfl (by decide) acl_0 h.2.2.2.2.1 (zR1 (a + 2) (by omega)) (by decide +kernel) ?_
  show G Γ m_Pi_init (d + 1) (2, 16) _ 17 [.ref a] [.ref (a + 2), .ref a] (I, L, R1, a + 3)
  refine g_pf (i := 15) (k := 1) (ci := 6) (by decide +kernel) ⟨h.2.2.1, show a < a + 3 by omega⟩ ?_
  show G Γ m_Pi_init (d + 1) (2, 16) _ 20 [.ref a] [] (I, L, (up2 R1 a 1 (some (a + 2))), a + 3)
  obtain ⟨R2, eR2⟩ : ∃ r, r = up2 R1 a 1 (some (a + 2)) := ⟨_, rfl⟩
  rw [← eR2]
  have zR2 : Zr (I, L, R2, a + 3) (a + 3) := by rw [eR2]; exact Zr.f (fun q hq j => up2_out (by omega)) (by omega) zR1
  refine run_ok (pc' := 23) [(.aload_n 0, 0, 0, 0), (.bipush 8, 0, 0, 0)] _ _ _ _ (by decide +kernel) ?_
  show G Γ m_Pi_init (d + 1) (2, 16) _ 23 [.ref a] [.int (w 8), .ref a] (I, L, R2, a + 3)
  refine g_newa (atype := .int) (t := 0) (n := 8) (b1 := 1) (b2 := 8) rfl (by decide) acl_0 h.2.2.2.2.2.1 (zR2 (a + 3) (by omega)) (by decide +kernel) ?_
  show G Γ m_Pi_init (d + 1) (1, 8) _ 25 [.ref a] [.ref (a + 3), .ref a] (I, L, R2, a + 4)
  refine g_pf (i := 18) (k := 2) (ci := 6) (by decide +kernel) ⟨h.2.2.1, show a < a + 4 by omega⟩ ?_
  show G Γ m_Pi_init (d + 1) (1, 8) _ 28 [.ref a] [] (I, L, (up2 R2 a 2 (some (a + 3))), a + 4)
  obtain ⟨R3, eR3⟩ : ∃ r, r = up2 R2 a 2 (some (a + 3)) := ⟨_, rfl⟩
  rw [← eR3]
  have zR3 : Zr (I, L, R3, a + 4) (a + 4) := by rw [eR3]; exact Zr.f (fun q hq j => up2_out (by omega)) (by omega) zR2
  refine run_ok (pc' := 31) [(.aload_n 0, 0, 0, 0), (.bipush 8, 0, 0, 0)] _ _ _ _ (by decide +kernel) ?_
  show G Γ m_Pi_init (d + 1) (1, 8) _ 31 [.ref a] [.int (w 8), .ref a] (I, L, R3, a + 4)
  refine g_newa (atype := .int) (t := 0) (n := 8) (b1 := 0) (b2 := 0) rfl (by decide) acl_0 h.2.2.2.2.2.2 (zR3 (a + 4) (by omega)) (by decide +kernel) ?_
  show G Γ m_Pi_init (d + 1) (0, 0) _ 33 [.ref a] [.ref (a + 4), .ref a] (I, L, R3, a + 5)
  refine g_pf (i := 21) (k := 3) (ci := 6) (by decide +kernel) ⟨h.2.2.1, show a < a + 5 by omega⟩ ?_
  show G Γ m_Pi_init (d + 1) (0, 0) _ 36 [.ref a] [] (I, L, (up2 R3 a 3 (some (a + 4))), a + 5)
  obtain ⟨R4, eR4⟩ : ∃ r, r = up2 R3 a 3 (some (a + 4)) := ⟨_, rfl⟩
  rw [← eR4]
  have zR4 : Zr (I, L, R4, a + 5) (a + 5) := by rw [eR4]; exact Zr.f (fun q hq j => up2_out (by omega)) (by omega) zR3
  exact g_retv (by decide +kernel) rfl ⟨rfl, by rw [eR4, eR3, eR2, eR1] <;> rfl⟩
def m_Ta_init : MM := (9, ⟨"FrostBox$Tape", "<init>", "()V"⟩, prog_11_method_1_code, 1, none, 1, 240)
theorem ok_Ta_init : mOK m_Ta_init := ⟨by decide +kernel, by decide +kernel⟩
theorem dk_Ta_init (d : Nat) : dOK (d + 1) d m_Ta_init := ⟨Nat.le_refl _, by show 19 + 1 + 40 * d ≤ 40 * (d + 1); omega⟩
set_option maxRecDepth 100000 in
theorem lc_Ta_init : LkC m_Ta_init 0 := ⟨lwG_in (List.mem_of_getElem? (i := 148) rfl) rfl, lwG_in (List.mem_of_getElem? (i := 114) rfl) rfl, by decide +kernel, by decide +kernel, by decide +kernel⟩
set_option maxRecDepth 100000 in
theorem C_Ta_init {Γ : XG} {d : Nat} {I : RI4} {L : RJ} {R : RR} (hd : 1 ≤ d) (hz : Zr (I, L, R, 34) (34)) : Call Γ m_Ta_init d [.ref 33] (I, L, R, 34) (KV (fun μ' => μ' = (up2 I 33 3 (w (-1)), L, up2 R 33 0 (some 34), 35))) := by
  obtain ⟨d, rfl⟩ : ∃ e, d = e + 1 := ⟨d - 1, by omega⟩
  refine Call.of ok_Ta_init (Nat.le_of_ble_eq_true rfl) ?_
  show G Γ m_Ta_init (d + 1) (1, 240) _ 0 [.ref 33] [] (I, L, R, 34)
  refine run_ok (pc' := 1) [(.aload_n 0, 0, 0, 0)] _ _ _ _ (by decide +kernel) ?_
  show G Γ m_Ta_init (d + 1) (1, 240) _ 1 [.ref 33] [.ref 33] (I, L, R, 34)
  refine g_objInit (lwG_in (List.mem_of_getElem? (i := 149) rfl) rfl) hwO (Nat.le_of_ble_eq_true rfl) (by decide +kernel) ?_
  show G Γ m_Ta_init (d + 1) (1, 240) _ 4 [.ref 33] [] (I, L, R, 34)
  refine run_ok (pc' := 8) [(.aload_n 0, 0, 0, 0), (.sipush 240, 0, 0, 0)] _ _ _ _ (by decide +kernel) ?_
  show G Γ m_Ta_init (d + 1) (1, 240) _ 8 [.ref 33] [.int (w 240), .ref 33] (I, L, R, 34)
  refine g_newa (atype := .int) (t := 0) (n := 240) (b1 := 0) (b2 := 0) rfl (by decide) acl_0 (show shp (34) = _ from rfl) (hz (34) (by omega)) (by decide +kernel) ?_
  show G Γ m_Ta_init (d + 1) (0, 0) _ 10 [.ref 33] [.ref 34, .ref 33] (I, L, R, 35)
  refine g_pf (i := 9) (k := 0) (ci := 9) (by decide +kernel) ⟨rfl, show 33 < 35 by omega⟩ ?_
  show G Γ m_Ta_init (d + 1) (0, 0) _ 13 [.ref 33] [] (I, L, (up2 R 33 0 (some 34)), 35)
  obtain ⟨R1, eR1⟩ : ∃ r, r = up2 R 33 0 (some 34) := ⟨_, rfl⟩
  rw [← eR1]
  have zR1 : Zr (I, L, R1, 35) (35) := by rw [eR1]; exact Zr.f (fun q hq j => up2_out (by omega)) (by omega) hz
  refine run_ok (pc' := 18) [(.aload_n 0, 0, 0, 0), (.iconst (-1), 0, 0, 0), (.putfield 15, 9, 3, 0)] _ _ _ _ (by decide +kernel) ?_
  show _ ∧ (_)
  refine ⟨⟨rfl, show 33 < 35 by omega⟩, ?_⟩
  show G Γ m_Ta_init (d + 1) (0, 0) _ 18 [.ref 33] [] ((up2 I 33 3 (w (-1))), L, R1, 35)
  obtain ⟨I2, eI2⟩ : ∃ r, r = up2 I 33 3 (w (-1)) := ⟨_, rfl⟩
  rw [← eI2]
  have zI2 : Zr (I2, L, R1, 35) (35) := by rw [eI2]; exact Zr.i (by omega) (by omega) zR1
  exact g_retv (by decide +kernel) rfl ⟨rfl, by rw [eI2, eR1] <;> rfl⟩
def m_La_init : MM := (2, ⟨"FrostBox$Law", "<init>", "()V"⟩, prog_4_method_1_code, 1, none, 3, 310)
theorem ok_La_init : mOK m_La_init := ⟨by decide +kernel, by decide +kernel⟩
theorem dk_La_init (d : Nat) : dOK (d + 1) d m_La_init := ⟨Nat.le_refl _, by show 19 + 1 + 40 * d ≤ 40 * (d + 1); omega⟩
set_option maxRecDepth 100000 in
theorem lc_La_init : LkC m_La_init 0 := ⟨lwG_in (List.mem_of_getElem? (i := 351) rfl) rfl, lwG_in (List.mem_of_getElem? (i := 122) rfl) rfl, by decide +kernel, by decide +kernel, by decide +kernel⟩
set_option maxRecDepth 100000 in
theorem C_La_init {Γ : XG} {d a : Nat} {I : RI4} {L : RJ} {R : RR} (hd : 1 ≤ d) (h : LSh a) (hz : Zr (I, L, R, a + 1) (a + 1)) : Call Γ m_La_init d [.ref a] (I, L, R, a + 1) (KV (fun μ' => μ' = (I, L, lR a R, a + 4))) := by
  obtain ⟨d, rfl⟩ : ∃ e, d = e + 1 := ⟨d - 1, by omega⟩
  refine Call.of ok_La_init (Nat.le_of_ble_eq_true rfl) ?_
  show G Γ m_La_init (d + 1) (3, 310) _ 0 [.ref a] [] (I, L, R, a + 1)
  have h32 := h.1
  refine run_ok (pc' := 1) [(.aload_n 0, 0, 0, 0)] _ _ _ _ (by decide +kernel) ?_
  show G Γ m_La_init (d + 1) (3, 310) _ 1 [.ref a] [.ref a] (I, L, R, a + 1)
  refine g_objInit (lwG_in (List.mem_of_getElem? (i := 352) rfl) rfl) hwO (Nat.le_of_ble_eq_true rfl) (by decide +kernel) ?_
  show G Γ m_La_init (d + 1) (3, 310) _ 4 [.ref a] [] (I, L, R, a + 1)
  refine run_ok (pc' := 8) [(.aload_n 0, 0, 0, 0), (.sipush 240, 0, 0, 0)] _ _ _ _ (by decide +kernel) ?_
  show G Γ m_La_init (d + 1) (3, 310) _ 8 [.ref a] [.int (w 240), .ref a] (I, L, R, a + 1)
  refine g_newa (atype := .int) (t := 0) (n := 240) (b1 := 2) (b2 := 70) rfl (by decide) acl_0 h.2.2.2.1 (hz (a + 1) (by omega)) (by decide +kernel) ?_
  show G Γ m_La_init (d + 1) (2, 70) _ 10 [.ref a] [.ref (a + 1), .ref a] (I, L, R, a + 2)
  refine g_pf (i := 9) (k := 0) (ci := 2) (by decide +kernel) ⟨h.2.2.1, show a < a + 2 by omega⟩ ?_
  show G Γ m_La_init (d + 1) (2, 70) _ 13 [.ref a] [] (I, L, (up2 R a 0 (some (a + 1))), a + 2)
  obtain ⟨R1, eR1⟩ : ∃ r, r = up2 R a 0 (some (a + 1)) := ⟨_, rfl⟩
  rw [← eR1]
  have zR1 : Zr (I, L, R1, a + 2) (a + 2) := by rw [eR1]; exact Zr.f (fun q hq j => up2_out (by omega)) (by omega) hz
  refine run_ok (pc' := 18) [(.aload_n 0, 0, 0, 0), (.getstatic 15, 1, 3, 0), (.arraylength, 3, 0, 0)] _ _ _ _ (by decide +kernel) ?_
  show ∃ _, _ ∧ (_)
  refine ⟨6, ⟨rfl, show 3 < a + 2 by omega⟩, ?_⟩
  show G Γ m_La_init (d + 1) (2, 70) _ 18 [.ref a] [.int (w 6), .ref a] (I, L, R1, a + 2)
  refine g_newa (atype := .int) (t := 0) (n := 6) (b1 := 1) (b2 := 64) rfl (by decide) acl_0 h.2.2.2.2.1 (zR1 (a + 2) (by omega)) (by decide +kernel) ?_
  show G Γ m_La_init (d + 1) (1, 64) _ 20 [.ref a] [.ref (a + 2), .ref a] (I, L, R1, a + 3)
  refine g_pf (i := 19) (k := 1) (ci := 2) (by decide +kernel) ⟨h.2.2.1, show a < a + 3 by omega⟩ ?_
  show G Γ m_La_init (d + 1) (1, 64) _ 23 [.ref a] [] (I, L, (up2 R1 a 1 (some (a + 2))), a + 3)
  obtain ⟨R2, eR2⟩ : ∃ r, r = up2 R1 a 1 (some (a + 2)) := ⟨_, rfl⟩
  rw [← eR2]
  have zR2 : Zr (I, L, R2, a + 3) (a + 3) := by rw [eR2]; exact Zr.f (fun q hq j => up2_out (by omega)) (by omega) zR1
  refine run_ok (pc' := 26) [(.aload_n 0, 0, 0, 0), (.bipush 64, 0, 0, 0)] _ _ _ _ (by decide +kernel) ?_
  show G Γ m_La_init (d + 1) (1, 64) _ 26 [.ref a] [.int (w 64), .ref a] (I, L, R2, a + 3)
  refine g_newa (atype := .int) (t := 0) (n := 64) (b1 := 0) (b2 := 0) rfl (by decide) acl_0 h.2.2.2.2.2 (zR2 (a + 3) (by omega)) (by decide +kernel) ?_
  show G Γ m_La_init (d + 1) (0, 0) _ 28 [.ref a] [.ref (a + 3), .ref a] (I, L, R2, a + 4)
  refine g_pf (i := 22) (k := 2) (ci := 2) (by decide +kernel) ⟨h.2.2.1, show a < a + 4 by omega⟩ ?_
  show G Γ m_La_init (d + 1) (0, 0) _ 31 [.ref a] [] (I, L, (up2 R2 a 2 (some (a + 3))), a + 4)
  obtain ⟨R3, eR3⟩ : ∃ r, r = up2 R2 a 2 (some (a + 3)) := ⟨_, rfl⟩
  rw [← eR3]
  have zR3 : Zr (I, L, R3, a + 4) (a + 4) := by rw [eR3]; exact Zr.f (fun q hq j => up2_out (by omega)) (by omega) zR2
  exact g_retv (by decide +kernel) rfl ⟨rfl, by rw [eR3, eR2, eR1] <;> rfl⟩
def m_Pl_init : MM := (7, ⟨"FrostBox$Plan", "<init>", "()V"⟩, prog_9_method_1_code, 1, none, 4, 64)
theorem ok_Pl_init : mOK m_Pl_init := ⟨by decide +kernel, by decide +kernel⟩
theorem dk_Pl_init (d : Nat) : dOK (d + 1) d m_Pl_init := ⟨Nat.le_refl _, by show 19 + 1 + 40 * d ≤ 40 * (d + 1); omega⟩
set_option maxRecDepth 100000 in
theorem lc_Pl_init : LkC m_Pl_init 0 := ⟨lwG_in (List.mem_of_getElem? (i := 371) rfl) rfl, lwG_in (List.mem_of_getElem? (i := 123) rfl) rfl, by decide +kernel, by decide +kernel, by decide +kernel⟩
set_option maxRecDepth 100000 in
theorem C_Pl_init {Γ : XG} {d a : Nat} {I : RI4} {L : RJ} {R : RR} (hd : 1 ≤ d) (h : PLs a) (hz : Zr (I, L, R, a + 1) (a + 1)) : Call Γ m_Pl_init d [.ref a] (I, L, R, a + 1) (KV (fun μ' => μ' = (I, L, pR a R, a + 5))) := by
  obtain ⟨d, rfl⟩ : ∃ e, d = e + 1 := ⟨d - 1, by omega⟩
  refine Call.of ok_Pl_init (Nat.le_of_ble_eq_true rfl) ?_
  show G Γ m_Pl_init (d + 1) (4, 64) _ 0 [.ref a] [] (I, L, R, a + 1)
  refine run_ok (pc' := 1) [(.aload_n 0, 0, 0, 0)] _ _ _ _ (by decide +kernel) ?_
  show G Γ m_Pl_init (d + 1) (4, 64) _ 1 [.ref a] [.ref a] (I, L, R, a + 1)
  refine g_objInit (lwG_in (List.mem_of_getElem? (i := 372) rfl) rfl) hwO (Nat.le_of_ble_eq_true rfl) (by decide +kernel) ?_
  show G Γ m_Pl_init (d + 1) (4, 64) _ 4 [.ref a] [] (I, L, R, a + 1)
  refine run_ok (pc' := 7) [(.aload_n 0, 0, 0, 0), (.bipush 16, 0, 0, 0)] _ _ _ _ (by decide +kernel) ?_
  show G Γ m_Pl_init (d + 1) (4, 64) _ 7 [.ref a] [.int (w 16), .ref a] (I, L, R, a + 1)
  refine g_newa (atype := .int) (t := 0) (n := 16) (b1 := 3) (b2 := 48) rfl (by decide) acl_0 h.2.1 (hz (a + 1) (by omega)) (by decide +kernel) ?_
  show G Γ m_Pl_init (d + 1) (3, 48) _ 9 [.ref a] [.ref (a + 1), .ref a] (I, L, R, a + 2)
  refine g_pf (i := 9) (k := 0) (ci := 7) (by decide +kernel) ⟨h.1, show a < a + 2 by omega⟩ ?_
  show G Γ m_Pl_init (d + 1) (3, 48) _ 12 [.ref a] [] (I, L, (up2 R a 0 (some (a + 1))), a + 2)
  obtain ⟨R1, eR1⟩ : ∃ r, r = up2 R a 0 (some (a + 1)) := ⟨_, rfl⟩
  rw [← eR1]
  have zR1 : Zr (I, L, R1, a + 2) (a + 2) := by rw [eR1]; exact Zr.f (fun q hq j => up2_out (by omega)) (by omega) hz
  refine run_ok (pc' := 15) [(.aload_n 0, 0, 0, 0), (.bipush 16, 0, 0, 0)] _ _ _ _ (by decide +kernel) ?_
  show G Γ m_Pl_init (d + 1) (3, 48) _ 15 [.ref a] [.int (w 16), .ref a] (I, L, R1, a + 2)
  refine g_newa (atype := .int) (t := 0) (n := 16) (b1 := 2) (b2 := 32) rfl (by decide) acl_0 h.2.2.1 (zR1 (a + 2) (by omega)) (by decide +kernel) ?_
  show G Γ m_Pl_init (d + 1) (2, 32) _ 17 [.ref a] [.ref (a + 2), .ref a] (I, L, R1, a + 3)
  refine g_pf (i := 15) (k := 1) (ci := 7) (by decide +kernel) ⟨h.1, show a < a + 3 by omega⟩ ?_
  show G Γ m_Pl_init (d + 1) (2, 32) _ 20 [.ref a] [] (I, L, (up2 R1 a 1 (some (a + 2))), a + 3)
  obtain ⟨R2, eR2⟩ : ∃ r, r = up2 R1 a 1 (some (a + 2)) := ⟨_, rfl⟩
  rw [← eR2]
  have zR2 : Zr (I, L, R2, a + 3) (a + 3) := by rw [eR2]; exact Zr.f (fun q hq j => up2_out (by omega)) (by omega) zR1
  refine run_ok (pc' := 23) [(.aload_n 0, 0, 0, 0), (.bipush 16, 0, 0, 0)] _ _ _ _ (by decide +kernel) ?_
  show G Γ m_Pl_init (d + 1) (2, 32) _ 23 [.ref a] [.int (w 16), .ref a] (I, L, R2, a + 3)
  refine g_newa (atype := .int) (t := 0) (n := 16) (b1 := 1) (b2 := 16) rfl (by decide) acl_0 h.2.2.2.1 (zR2 (a + 3) (by omega)) (by decide +kernel) ?_
  show G Γ m_Pl_init (d + 1) (1, 16) _ 25 [.ref a] [.ref (a + 3), .ref a] (I, L, R2, a + 4)
  refine g_pf (i := 18) (k := 2) (ci := 7) (by decide +kernel) ⟨h.1, show a < a + 4 by omega⟩ ?_
  show G Γ m_Pl_init (d + 1) (1, 16) _ 28 [.ref a] [] (I, L, (up2 R2 a 2 (some (a + 3))), a + 4)
  obtain ⟨R3, eR3⟩ : ∃ r, r = up2 R2 a 2 (some (a + 3)) := ⟨_, rfl⟩
  rw [← eR3]
  have zR3 : Zr (I, L, R3, a + 4) (a + 4) := by rw [eR3]; exact Zr.f (fun q hq j => up2_out (by omega)) (by omega) zR2
  refine run_ok (pc' := 31) [(.aload_n 0, 0, 0, 0), (.bipush 16, 0, 0, 0)] _ _ _ _ (by decide +kernel) ?_
  show G Γ m_Pl_init (d + 1) (1, 16) _ 31 [.ref a] [.int (w 16), .ref a] (I, L, R3, a + 4)
  refine g_newa (atype := .int) (t := 0) (n := 16) (b1 := 0) (b2 := 0) rfl (by decide) acl_0 h.2.2.2.2 (zR3 (a + 4) (by omega)) (by decide +kernel) ?_
  show G Γ m_Pl_init (d + 1) (0, 0) _ 33 [.ref a] [.ref (a + 4), .ref a] (I, L, R3, a + 5)
  refine g_pf (i := 21) (k := 3) (ci := 7) (by decide +kernel) ⟨h.1, show a < a + 5 by omega⟩ ?_
  show G Γ m_Pl_init (d + 1) (0, 0) _ 36 [.ref a] [] (I, L, (up2 R3 a 3 (some (a + 4))), a + 5)
  obtain ⟨R4, eR4⟩ : ∃ r, r = up2 R3 a 3 (some (a + 4)) := ⟨_, rfl⟩
  rw [← eR4]
  have zR4 : Zr (I, L, R4, a + 5) (a + 5) := by rw [eR4]; exact Zr.f (fun q hq j => up2_out (by omega)) (by omega) zR3
  exact g_retv (by decide +kernel) rfl ⟨rfl, by rw [eR4, eR3, eR2, eR1] <;> rfl⟩
def m_Lo_init : MM := (3, ⟨"FrostBox$Looks", "<init>", "()V"⟩, prog_5_method_1_code, 1, none, 2, 24)
theorem ok_Lo_init : mOK m_Lo_init := ⟨by decide +kernel, by decide +kernel⟩
theorem dk_Lo_init (d : Nat) : dOK (d + 1) d m_Lo_init := ⟨Nat.le_refl _, by show 19 + 1 + 40 * d ≤ 40 * (d + 1); omega⟩
set_option maxRecDepth 100000 in
theorem lc_Lo_init : LkC m_Lo_init 0 := ⟨lwG_in (List.mem_of_getElem? (i := 308) rfl) rfl, lwG_in (List.mem_of_getElem? (i := 120) rfl) rfl, by decide +kernel, by decide +kernel, by decide +kernel⟩
set_option maxRecDepth 100000 in
theorem C_Lo_init {Γ : XG} {d : Nat} {I : RI4} {L : RJ} {R : RR} (hd : 1 ≤ d) (hz : Zr (I, L, R, 491) (491)) : Call Γ m_Lo_init d [.ref 490] (I, L, R, 491) (KV (fun μ' => μ' = (I, L, up2 (up2 R 490 0 (some 491)) 490 1 (some 492), 493))) := by
  obtain ⟨d, rfl⟩ : ∃ e, d = e + 1 := ⟨d - 1, by omega⟩
  refine Call.of ok_Lo_init (Nat.le_of_ble_eq_true rfl) ?_
  show G Γ m_Lo_init (d + 1) (2, 24) _ 0 [.ref 490] [] (I, L, R, 491)
  refine run_ok (pc' := 1) [(.aload_n 0, 0, 0, 0)] _ _ _ _ (by decide +kernel) ?_
  show G Γ m_Lo_init (d + 1) (2, 24) _ 1 [.ref 490] [.ref 490] (I, L, R, 491)
  refine g_objInit (lwG_in (List.mem_of_getElem? (i := 309) rfl) rfl) hwO (Nat.le_of_ble_eq_true rfl) (by decide +kernel) ?_
  show G Γ m_Lo_init (d + 1) (2, 24) _ 4 [.ref 490] [] (I, L, R, 491)
  refine run_ok (pc' := 7) [(.aload_n 0, 0, 0, 0), (.bipush 12, 0, 0, 0)] _ _ _ _ (by decide +kernel) ?_
  show G Γ m_Lo_init (d + 1) (2, 24) _ 7 [.ref 490] [.int (w 12), .ref 490] (I, L, R, 491)
  refine g_newa (atype := .int) (t := 0) (n := 12) (b1 := 1) (b2 := 12) rfl (by decide) acl_0 (show shp (491) = _ from rfl) (hz (491) (by omega)) (by decide +kernel) ?_
  show G Γ m_Lo_init (d + 1) (1, 12) _ 9 [.ref 490] [.ref 491, .ref 490] (I, L, R, 492)
  refine g_pf (i := 9) (k := 0) (ci := 3) (by decide +kernel) ⟨rfl, show 490 < 492 by omega⟩ ?_
  show G Γ m_Lo_init (d + 1) (1, 12) _ 12 [.ref 490] [] (I, L, (up2 R 490 0 (some 491)), 492)
  obtain ⟨R1, eR1⟩ : ∃ r, r = up2 R 490 0 (some 491) := ⟨_, rfl⟩
  rw [← eR1]
  have zR1 : Zr (I, L, R1, 492) (492) := by rw [eR1]; exact Zr.f (fun q hq j => up2_out (by omega)) (by omega) hz
  refine run_ok (pc' := 15) [(.aload_n 0, 0, 0, 0), (.bipush 12, 0, 0, 0)] _ _ _ _ (by decide +kernel) ?_
  show G Γ m_Lo_init (d + 1) (1, 12) _ 15 [.ref 490] [.int (w 12), .ref 490] (I, L, R1, 492)
  refine g_newa (atype := .int) (t := 0) (n := 12) (b1 := 0) (b2 := 0) rfl (by decide) acl_0 (show shp (492) = _ from rfl) (zR1 (492) (by omega)) (by decide +kernel) ?_
  show G Γ m_Lo_init (d + 1) (0, 0) _ 17 [.ref 490] [.ref 492, .ref 490] (I, L, R1, 493)
  refine g_pf (i := 15) (k := 1) (ci := 3) (by decide +kernel) ⟨rfl, show 490 < 493 by omega⟩ ?_
  show G Γ m_Lo_init (d + 1) (0, 0) _ 20 [.ref 490] [] (I, L, (up2 R1 490 1 (some 492)), 493)
  obtain ⟨R2, eR2⟩ : ∃ r, r = up2 R1 490 1 (some 492) := ⟨_, rfl⟩
  rw [← eR2]
  have zR2 : Zr (I, L, R2, 493) (493) := by rw [eR2]; exact Zr.f (fun q hq j => up2_out (by omega)) (by omega) zR1
  exact g_retv (by decide +kernel) rfl ⟨rfl, by rw [eR2, eR1] <;> rfl⟩
def m_Pa_init : MM := (5, ⟨"FrostBox$Past", "<init>", "()V"⟩, prog_7_method_1_code, 1, none, 5, 42)
theorem ok_Pa_init : mOK m_Pa_init := ⟨by decide +kernel, by decide +kernel⟩
theorem dk_Pa_init (d : Nat) : dOK (d + 1) d m_Pa_init := ⟨Nat.le_refl _, by show 19 + 1 + 40 * d ≤ 40 * (d + 1); omega⟩
set_option maxRecDepth 100000 in
theorem lc_Pa_init : LkC m_Pa_init 0 := ⟨lwG_in (List.mem_of_getElem? (i := 325) rfl) rfl, lwG_in (List.mem_of_getElem? (i := 121) rfl) rfl, by decide +kernel, by decide +kernel, by decide +kernel⟩
set_option maxRecDepth 100000 in
theorem C_Pa_init {Γ : XG} {d : Nat} {I : RI4} {L : RJ} {R : RR} (hd : 1 ≤ d) (hz : Zr (I, L, R, 494) (494)) : Call Γ m_Pa_init d [.ref 493] (I, L, R, 494) (KV (fun μ' => μ' = (I, L, up2 (up2 (up2 (up2 (up2 R 493 0 (some 494)) 493 1 (some 495)) 493 2 (some 496)) 493 3 (some 497)) 493 4 (some 498), 499))) := by
  obtain ⟨d, rfl⟩ : ∃ e, d = e + 1 := ⟨d - 1, by omega⟩
  refine Call.of ok_Pa_init (Nat.le_of_ble_eq_true rfl) ?_
  show G Γ m_Pa_init (d + 1) (5, 42) _ 0 [.ref 493] [] (I, L, R, 494)
  refine run_ok (pc' := 1) [(.aload_n 0, 0, 0, 0)] _ _ _ _ (by decide +kernel) ?_
  show G Γ m_Pa_init (d + 1) (5, 42) _ 1 [.ref 493] [.ref 493] (I, L, R, 494)
  refine g_objInit (lwG_in (List.mem_of_getElem? (i := 326) rfl) rfl) hwO (Nat.le_of_ble_eq_true rfl) (by decide +kernel) ?_
  show G Γ m_Pa_init (d + 1) (5, 42) _ 4 [.ref 493] [] (I, L, R, 494)
  refine run_ok (pc' := 7) [(.aload_n 0, 0, 0, 0), (.bipush 10, 0, 0, 0)] _ _ _ _ (by decide +kernel) ?_
  show G Γ m_Pa_init (d + 1) (5, 42) _ 7 [.ref 493] [.int (w 10), .ref 493] (I, L, R, 494)
  refine g_newa (atype := .int) (t := 0) (n := 10) (b1 := 4) (b2 := 32) rfl (by decide) acl_0 (show shp (494) = _ from rfl) (hz (494) (by omega)) (by decide +kernel) ?_
  show G Γ m_Pa_init (d + 1) (4, 32) _ 9 [.ref 493] [.ref 494, .ref 493] (I, L, R, 495)
  refine g_pf (i := 9) (k := 0) (ci := 5) (by decide +kernel) ⟨rfl, show 493 < 495 by omega⟩ ?_
  show G Γ m_Pa_init (d + 1) (4, 32) _ 12 [.ref 493] [] (I, L, (up2 R 493 0 (some 494)), 495)
  obtain ⟨R1, eR1⟩ : ∃ r, r = up2 R 493 0 (some 494) := ⟨_, rfl⟩
  rw [← eR1]
  have zR1 : Zr (I, L, R1, 495) (495) := by rw [eR1]; exact Zr.f (fun q hq j => up2_out (by omega)) (by omega) hz
  refine run_ok (pc' := 15) [(.aload_n 0, 0, 0, 0), (.bipush 10, 0, 0, 0)] _ _ _ _ (by decide +kernel) ?_
  show G Γ m_Pa_init (d + 1) (4, 32) _ 15 [.ref 493] [.int (w 10), .ref 493] (I, L, R1, 495)
  refine g_newa (atype := .int) (t := 0) (n := 10) (b1 := 3) (b2 := 22) rfl (by decide) acl_0 (show shp (495) = _ from rfl) (zR1 (495) (by omega)) (by decide +kernel) ?_
  show G Γ m_Pa_init (d + 1) (3, 22) _ 17 [.ref 493] [.ref 495, .ref 493] (I, L, R1, 496)
  refine g_pf (i := 15) (k := 1) (ci := 5) (by decide +kernel) ⟨rfl, show 493 < 496 by omega⟩ ?_
  show G Γ m_Pa_init (d + 1) (3, 22) _ 20 [.ref 493] [] (I, L, (up2 R1 493 1 (some 495)), 496)
  obtain ⟨R2, eR2⟩ : ∃ r, r = up2 R1 493 1 (some 495) := ⟨_, rfl⟩
  rw [← eR2]
  have zR2 : Zr (I, L, R2, 496) (496) := by rw [eR2]; exact Zr.f (fun q hq j => up2_out (by omega)) (by omega) zR1
  refine run_ok (pc' := 23) [(.aload_n 0, 0, 0, 0), (.bipush 10, 0, 0, 0)] _ _ _ _ (by decide +kernel) ?_
  show G Γ m_Pa_init (d + 1) (3, 22) _ 23 [.ref 493] [.int (w 10), .ref 493] (I, L, R2, 496)
  refine g_newa (atype := .boolean) (t := 2) (n := 10) (b1 := 2) (b2 := 12) rfl (by decide) acl_2 (show shp (496) = _ from rfl) (zR2 (496) (by omega)) (by decide +kernel) ?_
  show G Γ m_Pa_init (d + 1) (2, 12) _ 25 [.ref 493] [.ref 496, .ref 493] (I, L, R2, 497)
  refine g_pf (i := 18) (k := 2) (ci := 5) (by decide +kernel) ⟨rfl, show 493 < 497 by omega⟩ ?_
  show G Γ m_Pa_init (d + 1) (2, 12) _ 28 [.ref 493] [] (I, L, (up2 R2 493 2 (some 496)), 497)
  obtain ⟨R3, eR3⟩ : ∃ r, r = up2 R2 493 2 (some 496) := ⟨_, rfl⟩
  rw [← eR3]
  have zR3 : Zr (I, L, R3, 497) (497) := by rw [eR3]; exact Zr.f (fun q hq j => up2_out (by omega)) (by omega) zR2
  refine run_ok (pc' := 31) [(.aload_n 0, 0, 0, 0), (.bipush 6, 0, 0, 0)] _ _ _ _ (by decide +kernel) ?_
  show G Γ m_Pa_init (d + 1) (2, 12) _ 31 [.ref 493] [.int (w 6), .ref 493] (I, L, R3, 497)
  refine g_newa (atype := .int) (t := 0) (n := 6) (b1 := 1) (b2 := 6) rfl (by decide) acl_0 (show shp (497) = _ from rfl) (zR3 (497) (by omega)) (by decide +kernel) ?_
  show G Γ m_Pa_init (d + 1) (1, 6) _ 33 [.ref 493] [.ref 497, .ref 493] (I, L, R3, 498)
  refine g_pf (i := 22) (k := 3) (ci := 5) (by decide +kernel) ⟨rfl, show 493 < 498 by omega⟩ ?_
  show G Γ m_Pa_init (d + 1) (1, 6) _ 36 [.ref 493] [] (I, L, (up2 R3 493 3 (some 497)), 498)
  obtain ⟨R4, eR4⟩ : ∃ r, r = up2 R3 493 3 (some 497) := ⟨_, rfl⟩
  rw [← eR4]
  have zR4 : Zr (I, L, R4, 498) (498) := by rw [eR4]; exact Zr.f (fun q hq j => up2_out (by omega)) (by omega) zR3
  refine run_ok (pc' := 39) [(.aload_n 0, 0, 0, 0), (.bipush 6, 0, 0, 0)] _ _ _ _ (by decide +kernel) ?_
  show G Γ m_Pa_init (d + 1) (1, 6) _ 39 [.ref 493] [.int (w 6), .ref 493] (I, L, R4, 498)
  refine g_newa (atype := .int) (t := 0) (n := 6) (b1 := 0) (b2 := 0) rfl (by decide) acl_0 (show shp (498) = _ from rfl) (zR4 (498) (by omega)) (by decide +kernel) ?_
  show G Γ m_Pa_init (d + 1) (0, 0) _ 41 [.ref 493] [.ref 498, .ref 493] (I, L, R4, 499)
  refine g_pf (i := 25) (k := 4) (ci := 5) (by decide +kernel) ⟨rfl, show 493 < 499 by omega⟩ ?_
  show G Γ m_Pa_init (d + 1) (0, 0) _ 44 [.ref 493] [] (I, L, (up2 R4 493 4 (some 498)), 499)
  obtain ⟨R5, eR5⟩ : ∃ r, r = up2 R4 493 4 (some 498) := ⟨_, rfl⟩
  rw [← eR5]
  have zR5 : Zr (I, L, R5, 499) (499) := by rw [eR5]; exact Zr.f (fun q hq j => up2_out (by omega)) (by omega) zR4
  exact g_retv (by decide +kernel) rfl ⟨rfl, by rw [eR5, eR4, eR3, eR2, eR1] <;> rfl⟩
def m_Me_init : MM := (4, ⟨"FrostBox$Meals", "<init>", "()V"⟩, prog_6_method_1_code, 1, none, 101, 500)
theorem ok_Me_init : mOK m_Me_init := ⟨by decide +kernel, by decide +kernel⟩
theorem dk_Me_init (d : Nat) : dOK (d + 1) d m_Me_init := ⟨Nat.le_refl _, by show 19 + 1 + 40 * d ≤ 40 * (d + 1); omega⟩
set_option maxRecDepth 100000 in
theorem lc_Me_init : LkC m_Me_init 0 := ⟨lwG_in (List.mem_of_getElem? (i := 272) rfl) rfl, lwG_in (List.mem_of_getElem? (i := 118) rfl) rfl, by decide +kernel, by decide +kernel, by decide +kernel⟩
set_option maxRecDepth 100000 in
theorem C_Me_init {Γ : XG} {d a : Nat} {I : RI4} {L : RJ} {R : RR} (hd : 1 ≤ d) (h : MSh a) (hz : Zr (I, L, R, a + 1) (a + 1)) : Call Γ m_Me_init d [.ref a] (I, L, R, a + 1) (KV (fun μ' => μ' = (I, L, mgR a R, a + 102))) := by
  obtain ⟨d, rfl⟩ : ∃ e, d = e + 1 := ⟨d - 1, by omega⟩
  refine Call.of ok_Me_init (Nat.le_of_ble_eq_true rfl) ?_
  show G Γ m_Me_init (d + 1) (101, 500) _ 0 [.ref a] [] (I, L, R, a + 1)
  refine run_ok (pc' := 1) [(.aload_n 0, 0, 0, 0)] _ _ _ _ (by decide +kernel) ?_
  show G Γ m_Me_init (d + 1) (101, 500) _ 1 [.ref a] [.ref a] (I, L, R, a + 1)
  refine g_objInit (lwG_in (List.mem_of_getElem? (i := 273) rfl) rfl) hwO (Nat.le_of_ble_eq_true rfl) (by decide +kernel) ?_
  show G Γ m_Me_init (d + 1) (101, 500) _ 4 [.ref a] [] (I, L, R, a + 1)
  refine run_ok (pc' := 8) [(.aload_n 0, 0, 0, 0), (.bipush 100, 0, 0, 0), (.iconst 4, 0, 0, 0)] _ _ _ _ (by decide +kernel) ?_
  show G Γ m_Me_init (d + 1) (101, 500) _ 8 [.ref a] [.int (w 4), .int (w 100), .ref a] (I, L, R, a + 1)
  refine g_multi (n := 100) (k := 4) (b1 := 0) (b2 := 0) (lwG_in (List.mem_of_getElem? (i := 274) rfl) rfl) acl_0 h.2.1 (fun j hj => (h.2.2 j hj)) (fun q hq => hz q (Nat.le_trans (by omega : a + 1 ≤ a + 1) hq)) (by decide) (by decide) (by decide +kernel) ?_
  show G Γ m_Me_init (d + 1) (0, 0) _ 12 [.ref a] [.ref (a + 1), .ref a] (I, L, (tR (a + 1) 100 R), a + 102)
  obtain ⟨R1, eR1⟩ : ∃ r, r = tR (a + 1) 100 R := ⟨_, rfl⟩
  rw [← eR1]
  have zR1 : Zr (I, L, R1, a + 102) (a + 102) := by rw [eR1]; exact Zr.f (fun q hq j => tR_ne (by omega)) (by omega) hz
  refine g_pf (i := 13) (k := 0) (ci := 4) (by decide +kernel) ⟨h.1, show a < a + 102 by omega⟩ ?_
  show G Γ m_Me_init (d + 1) (0, 0) _ 15 [.ref a] [] (I, L, (up2 R1 a 0 (some (a + 1))), a + 102)
  obtain ⟨R2, eR2⟩ : ∃ r, r = up2 R1 a 0 (some (a + 1)) := ⟨_, rfl⟩
  rw [← eR2]
  have zR2 : Zr (I, L, R2, a + 102) (a + 102) := by rw [eR2]; exact Zr.f (fun q hq j => up2_out (by omega)) (by omega) zR1
  exact g_retv (by decide +kernel) rfl ⟨rfl, by rw [eR2, eR1] <;> rfl⟩
set_option maxRecDepth 100000 in
theorem l_1_34 : LkIN 1 34 m_Pi_init 0 := ⟨lc_Pi_init, ⟨_, List.mem_of_getElem? (i := 183) rfl⟩, lwG_in (List.mem_of_getElem? (i := 184) rfl) rfl, rfl, rfl⟩
def m_Ho_init : MM := (1, ⟨"FrostBox$House", "<init>", "()V"⟩, prog_3_method_1_code, 1, none, 14, 82)
theorem ok_Ho_init : mOK m_Ho_init := ⟨by decide +kernel, by decide +kernel⟩
theorem dk_Ho_init (d : Nat) : dOK (d + 1) d m_Ho_init := ⟨Nat.le_refl _, by show 19 + 1 + 40 * d ≤ 40 * (d + 1); omega⟩
set_option maxRecDepth 100000 in
theorem lc_Ho_init : LkC m_Ho_init 0 := ⟨lwG_in (List.mem_of_getElem? (i := 171) rfl) rfl, lwG_in (List.mem_of_getElem? (i := 115) rfl) rfl, by decide +kernel, by decide +kernel, by decide +kernel⟩
set_option maxRecDepth 100000 in
theorem C_Ho_init {Γ : XG} {d h : Nat} {I : RI4} {L : RJ} {R : RR} (hd : 2 ≤ d) (hh : HS h) (hz : Zr (I, L, R, h + 1) (h + 1)) : Call Γ m_Ho_init d [.ref h] (I, L, R, h + 1) (KV (fun μ' => μ' = (I, L, hR h R, h + 15))) := by
  obtain ⟨d, rfl⟩ : ∃ e, d = e + 1 := ⟨d - 1, by omega⟩
  refine Call.of ok_Ho_init (Nat.le_of_ble_eq_true rfl) ?_
  show G Γ m_Ho_init (d + 1) (14, 82) _ 0 [.ref h] [] (I, L, R, h + 1)
  refine run_ok (pc' := 1) [(.aload_n 0, 0, 0, 0)] _ _ _ _ (by decide +kernel) ?_
  show G Γ m_Ho_init (d + 1) (14, 82) _ 1 [.ref h] [.ref h] (I, L, R, h + 1)
  refine g_objInit (lwG_in (List.mem_of_getElem? (i := 172) rfl) rfl) hwO (Nat.le_of_ble_eq_true rfl) (by decide +kernel) ?_
  show G Γ m_Ho_init (d + 1) (14, 82) _ 4 [.ref h] [] (I, L, R, h + 1)
  refine run_ok (pc' := 9) [(.aload_n 0, 0, 0, 0), (.getstatic 9, 1, 0, 0), (.arraylength, 0, 0, 0)] _ _ _ _ (by decide +kernel) ?_
  show ∃ _, _ ∧ (_)
  refine ⟨4, ⟨rfl, show 0 < h + 1 by omega⟩, ?_⟩
  show G Γ m_Ho_init (d + 1) (14, 82) _ 9 [.ref h] [.int (w 4), .ref h] (I, L, R, h + 1)
  refine g_newa (atype := .int) (t := 0) (n := 4) (b1 := 13) (b2 := 78) rfl (by decide) acl_0 hh.s.2.1 (hz (h + 1) (by omega)) (by decide +kernel) ?_
  show G Γ m_Ho_init (d + 1) (13, 78) _ 11 [.ref h] [.ref (h + 1), .ref h] (I, L, R, h + 2)
  refine g_pf (i := 13) (k := 0) (ci := 1) (by decide +kernel) ⟨hh.s.1, show h < h + 2 by omega⟩ ?_
  show G Γ m_Ho_init (d + 1) (13, 78) _ 14 [.ref h] [] (I, L, (up2 R h 0 (some (h + 1))), h + 2)
  obtain ⟨R1, eR1⟩ : ∃ r, r = up2 R h 0 (some (h + 1)) := ⟨_, rfl⟩
  rw [← eR1]
  have zR1 : Zr (I, L, R1, h + 2) (h + 2) := by rw [eR1]; exact Zr.f (fun q hq j => up2_out (by omega)) (by omega) hz
  refine run_ok (pc' := 21) [(.aload_n 0, 0, 0, 0), (.bipush 6, 0, 0, 0), (.getstatic 18, 1, 1, 0), (.arraylength, 0, 0, 0)] _ _ _ _ (by decide +kernel) ?_
  show ∃ _, _ ∧ (_)
  refine ⟨5, ⟨rfl, show 1 < h + 2 by omega⟩, ?_⟩
  show G Γ m_Ho_init (d + 1) (13, 78) _ 21 [.ref h] [.int (w 5), .int (w 6), .ref h] (I, L, R1, h + 2)
  refine g_multi (n := 6) (k := 5) (b1 := 6) (b2 := 42) (lwG_in (List.mem_of_getElem? (i := 177) rfl) rfl) acl_0 hh.s.2.2.1 (fun j hj => (by have q := hh.s.2.2.2.1 j hj; exact q)) (fun q hq => zR1 q (Nat.le_trans (by omega : h + 2 ≤ h + 2) hq)) (by decide) (by decide) (by decide +kernel) ?_
  show G Γ m_Ho_init (d + 1) (6, 42) _ 25 [.ref h] [.ref (h + 2), .ref h] (I, L, (tR (h + 2) 6 R1), h + 9)
  obtain ⟨R2, eR2⟩ : ∃ r, r = tR (h + 2) 6 R1 := ⟨_, rfl⟩
  rw [← eR2]
  have zR2 : Zr (I, L, R2, h + 9) (h + 9) := by rw [eR2]; exact Zr.f (fun q hq j => tR_ne (by omega)) (by omega) zR1
  refine g_pf (i := 23) (k := 1) (ci := 1) (by decide +kernel) ⟨hh.s.1, show h < h + 9 by omega⟩ ?_
  show G Γ m_Ho_init (d + 1) (6, 42) _ 28 [.ref h] [] (I, L, (up2 R2 h 1 (some (h + 2))), h + 9)
  obtain ⟨R3, eR3⟩ : ∃ r, r = up2 R2 h 1 (some (h + 2)) := ⟨_, rfl⟩
  rw [← eR3]
  have zR3 : Zr (I, L, R3, h + 9) (h + 9) := by rw [eR3]; exact Zr.f (fun q hq j => up2_out (by omega)) (by omega) zR2
  refine run_ok (pc' := 33) [(.aload_n 0, 0, 0, 0), (.getstatic 26, 1, 2, 0), (.arraylength, 0, 0, 0)] _ _ _ _ (by decide +kernel) ?_
  show ∃ _, _ ∧ (_)
  refine ⟨4, ⟨rfl, show 2 < h + 9 by omega⟩, ?_⟩
  show G Γ m_Ho_init (d + 1) (6, 42) _ 33 [.ref h] [.int (w 4), .ref h] (I, L, R3, h + 9)
  refine g_newa (atype := .int) (t := 0) (n := 4) (b1 := 5) (b2 := 38) rfl (by decide) acl_0 hh.s.2.2.2.2 (zR3 (h + 9) (by omega)) (by decide +kernel) ?_
  show G Γ m_Ho_init (d + 1) (5, 38) _ 35 [.ref h] [.ref (h + 9), .ref h] (I, L, R3, h + 10)
  refine g_pf (i := 29) (k := 2) (ci := 1) (by decide +kernel) ⟨hh.s.1, show h < h + 10 by omega⟩ ?_
  show G Γ m_Ho_init (d + 1) (5, 38) _ 38 [.ref h] [] (I, L, (up2 R3 h 2 (some (h + 9))), h + 10)
  obtain ⟨R4, eR4⟩ : ∃ r, r = up2 R3 h 2 (some (h + 9)) := ⟨_, rfl⟩
  rw [← eR4]
  have zR4 : Zr (I, L, R4, h + 10) (h + 10) := by rw [eR4]; exact Zr.f (fun q hq j => up2_out (by omega)) (by omega) zR3
  refine run_ok (pc' := 39) [(.aload_n 0, 0, 0, 0)] _ _ _ _ (by decide +kernel) ?_
  show G Γ m_Ho_init (d + 1) (5, 38) _ 39 [.ref h] [.ref h] (I, L, R4, h + 10)
  refine g_new (ci := 6) (n := 6) (b1 := 4) (b2 := 32) rfl (lwG_in (List.mem_of_getElem? (i := 181) rfl) rfl) (lwG_in (List.mem_of_getElem? (i := 182) rfl) rfl) (lwG_in (List.mem_of_getElem? (i := 116) rfl) rfl) (by decide) (HS_p hh).2.2.1 (zR4 (h + 10) (by omega)) (by decide +kernel) ?_
  show G Γ m_Ho_init (d + 1) (4, 32) _ 42 [.ref h] [.ref (h + 10), .ref h] (I, L, R4, h + 11)
  refine run_ok (pc' := 43) [(.dup, 0, 0, 0)] _ _ _ _ (by decide +kernel) ?_
  show G Γ m_Ho_init (d + 1) (4, 32) _ 43 [.ref h] [.ref (h + 10), .ref (h + 10), .ref h] (I, L, R4, h + 11)
  refine g_invIN (M := m_Ho_init) (i := 34) (As := []) (b1 := 0) (b2 := 0) l_1_34 (by decide +kernel) rfl (dk_Pi_init _) (Nat.le_of_ble_eq_true rfl) (C_Pi_init (by omega) (HS_p hh) (fun q hq => zR4 q (Nat.le_trans (by omega) hq))) ?_
  rintro _ _ ⟨rfl, rfl⟩ -
  show G Γ m_Ho_init (d + 1) (0, 0) _ 46 [.ref h] [.ref (h + 10), .ref h] (I, L, (pR (h + 10) R4), h + 15)
  obtain ⟨R5, eR5⟩ : ∃ r, r = pR (h + 10) R4 := ⟨_, rfl⟩
  rw [← eR5]
  have zR5 : Zr (I, L, R5, h + 15) (h + 15) := by rw [eR5]; exact Zr.f (fun q hq j => pR_ne (by omega)) (by omega) zR4
  refine g_pf (i := 35) (k := 3) (ci := 1) (by decide +kernel) ⟨hh.s.1, show h < h + 15 by omega⟩ ?_
  show G Γ m_Ho_init (d + 1) (0, 0) _ 49 [.ref h] [] (I, L, (up2 R5 h 3 (some (h + 10))), h + 15)
  obtain ⟨R6, eR6⟩ : ∃ r, r = up2 R5 h 3 (some (h + 10)) := ⟨_, rfl⟩
  rw [← eR6]
  have zR6 : Zr (I, L, R6, h + 15) (h + 15) := by rw [eR6]; exact Zr.f (fun q hq j => up2_out (by omega)) (by omega) zR5
  exact g_retv (by decide +kernel) rfl ⟨rfl, by rw [eR6, eR5, eR4, eR3, eR2, eR1] <;> rfl⟩
set_option maxRecDepth 100000 in
theorem l_8_9 : LkIN 8 9 m_Pi_init 0 := ⟨lc_Pi_init, ⟨_, List.mem_of_getElem? (i := 290) rfl⟩, lwG_in (List.mem_of_getElem? (i := 184) rfl) rfl, rfl, rfl⟩
set_option maxRecDepth 100000 in
theorem l_8_18 : LkIN 8 18 m_Me_init 0 := ⟨lc_Me_init, ⟨_, List.mem_of_getElem? (i := 292) rfl⟩, lwG_in (List.mem_of_getElem? (i := 271) rfl) rfl, rfl, rfl⟩
def m_Sn_init : MM := (8, ⟨"FrostBox$Snapshot", "<init>", "()V"⟩, prog_10_method_1_code, 1, none, 107, 540)
theorem ok_Sn_init : mOK m_Sn_init := ⟨by decide +kernel, by decide +kernel⟩
theorem dk_Sn_init (d : Nat) : dOK (d + 1) d m_Sn_init := ⟨Nat.le_refl _, by show 19 + 1 + 40 * d ≤ 40 * (d + 1); omega⟩
set_option maxRecDepth 100000 in
theorem lc_Sn_init : LkC m_Sn_init 0 := ⟨lwG_in (List.mem_of_getElem? (i := 287) rfl) rfl, lwG_in (List.mem_of_getElem? (i := 119) rfl) rfl, by decide +kernel, by decide +kernel, by decide +kernel⟩
set_option maxRecDepth 100000 in
theorem C_Sn_init {Γ : XG} {d : Nat} {I : RI4} {L : RJ} {R : RR} (hd : 2 ≤ d) (hz : Zr (I, L, R, 383) (383)) : Call Γ m_Sn_init d [.ref 382] (I, L, R, 383) (KV (fun μ' => μ' = (I, L, up2 (mgR 388 (up2 (pR 383 R) 382 0 (some 383))) 382 1 (some 388), 490))) := by
  obtain ⟨d, rfl⟩ : ∃ e, d = e + 1 := ⟨d - 1, by omega⟩
  refine Call.of ok_Sn_init (Nat.le_of_ble_eq_true rfl) ?_
  show G Γ m_Sn_init (d + 1) (107, 540) _ 0 [.ref 382] [] (I, L, R, 383)
  refine run_ok (pc' := 1) [(.aload_n 0, 0, 0, 0)] _ _ _ _ (by decide +kernel) ?_
  show G Γ m_Sn_init (d + 1) (107, 540) _ 1 [.ref 382] [.ref 382] (I, L, R, 383)
  refine g_objInit (lwG_in (List.mem_of_getElem? (i := 288) rfl) rfl) hwO (Nat.le_of_ble_eq_true rfl) (by decide +kernel) ?_
  show G Γ m_Sn_init (d + 1) (107, 540) _ 4 [.ref 382] [] (I, L, R, 383)
  refine run_ok (pc' := 5) [(.aload_n 0, 0, 0, 0)] _ _ _ _ (by decide +kernel) ?_
  show G Γ m_Sn_init (d + 1) (107, 540) _ 5 [.ref 382] [.ref 382] (I, L, R, 383)
  refine g_new (ci := 6) (n := 6) (b1 := 106) (b2 := 534) rfl (lwG_in (List.mem_of_getElem? (i := 289) rfl) rfl) (lwG_in (List.mem_of_getElem? (i := 182) rfl) rfl) (lwG_in (List.mem_of_getElem? (i := 116) rfl) rfl) (by decide) (show shp (383) = _ from rfl) (hz (383) (by omega)) (by decide +kernel) ?_
  show G Γ m_Sn_init (d + 1) (106, 534) _ 8 [.ref 382] [.ref 383, .ref 382] (I, L, R, 384)
  refine run_ok (pc' := 9) [(.dup, 0, 0, 0)] _ _ _ _ (by decide +kernel) ?_
  show G Γ m_Sn_init (d + 1) (106, 534) _ 9 [.ref 382] [.ref 383, .ref 383, .ref 382] (I, L, R, 384)
  refine g_invIN (M := m_Sn_init) (i := 9) (As := []) (b1 := 102) (b2 := 502) l_8_9 (by decide +kernel) rfl (dk_Pi_init _) (Nat.le_of_ble_eq_true rfl) (C_Pi_init (by omega) (PS_at (by omega)) (fun q hq => hz q (Nat.le_trans (by omega) hq))) ?_
  rintro _ _ ⟨rfl, rfl⟩ -
  show G Γ m_Sn_init (d + 1) (102, 502) _ 12 [.ref 382] [.ref 383, .ref 382] (I, L, (pR 383 R), 388)
  obtain ⟨R1, eR1⟩ : ∃ r, r = pR 383 R := ⟨_, rfl⟩
  rw [← eR1]
  have zR1 : Zr (I, L, R1, 388) (388) := by rw [eR1]; exact Zr.f (fun q hq j => pR_ne (by omega)) (by omega) hz
  refine g_pf (i := 10) (k := 0) (ci := 8) (by decide +kernel) ⟨rfl, show 382 < 388 by omega⟩ ?_
  show G Γ m_Sn_init (d + 1) (102, 502) _ 15 [.ref 382] [] (I, L, (up2 R1 382 0 (some 383)), 388)
  obtain ⟨R2, eR2⟩ : ∃ r, r = up2 R1 382 0 (some 383) := ⟨_, rfl⟩
  rw [← eR2]
  have zR2 : Zr (I, L, R2, 388) (388) := by rw [eR2]; exact Zr.f (fun q hq j => up2_out (by omega)) (by omega) zR1
  refine run_ok (pc' := 16) [(.aload_n 0, 0, 0, 0)] _ _ _ _ (by decide +kernel) ?_
  show G Γ m_Sn_init (d + 1) (102, 502) _ 16 [.ref 382] [.ref 382] (I, L, R2, 388)
  refine g_new (ci := 4) (n := 2) (b1 := 101) (b2 := 500) rfl (lwG_in (List.mem_of_getElem? (i := 291) rfl) rfl) (lwG_in (List.mem_of_getElem? (i := 269) rfl) rfl) (lwG_in (List.mem_of_getElem? (i := 118) rfl) rfl) (by decide) (show shp (388) = _ from rfl) (zR2 (388) (by omega)) (by decide +kernel) ?_
  show G Γ m_Sn_init (d + 1) (101, 500) _ 19 [.ref 382] [.ref 388, .ref 382] (I, L, R2, 389)
  refine run_ok (pc' := 20) [(.dup, 0, 0, 0)] _ _ _ _ (by decide +kernel) ?_
  show G Γ m_Sn_init (d + 1) (101, 500) _ 20 [.ref 382] [.ref 388, .ref 388, .ref 382] (I, L, R2, 389)
  refine g_invIN (M := m_Sn_init) (i := 18) (As := []) (b1 := 0) (b2 := 0) l_8_18 (by decide +kernel) rfl (dk_Me_init _) (Nat.le_of_ble_eq_true rfl) (C_Me_init (by omega) (MSh_at (by omega)) (fun q hq => zR2 q (Nat.le_trans (by omega) hq))) ?_
  rintro _ _ ⟨rfl, rfl⟩ -
  show G Γ m_Sn_init (d + 1) (0, 0) _ 23 [.ref 382] [.ref 388, .ref 382] (I, L, (mgR 388 R2), 490)
  obtain ⟨R3, eR3⟩ : ∃ r, r = mgR 388 R2 := ⟨_, rfl⟩
  rw [← eR3]
  have zR3 : Zr (I, L, R3, 490) (490) := by rw [eR3]; exact Zr.f (fun q hq j => mgR_ne (by omega)) (by omega) zR2
  refine g_pf (i := 19) (k := 1) (ci := 8) (by decide +kernel) ⟨rfl, show 382 < 490 by omega⟩ ?_
  show G Γ m_Sn_init (d + 1) (0, 0) _ 26 [.ref 382] [] (I, L, (up2 R3 382 1 (some 388)), 490)
  obtain ⟨R4, eR4⟩ : ∃ r, r = up2 R3 382 1 (some 388) := ⟨_, rfl⟩
  rw [← eR4]
  have zR4 : Zr (I, L, R4, 490) (490) := by rw [eR4]; exact Zr.f (fun q hq j => up2_out (by omega)) (by omega) zR3
  exact g_retv (by decide +kernel) rfl ⟨rfl, by rw [eR4, eR3, eR2, eR1] <;> rfl⟩
