/-! STRINGS: how long, their letters -/
set_option maxRecDepth 100000 in
theorem fl_value : Cond.fieldLink (cnm 15) 9 "java/lang/String" "value" "[B" ∈ lwG := lwG_in (List.mem_of_getElem? (i := 1952) rfl) rfl
set_option maxRecDepth 100000 in
theorem fl_coder : Cond.fieldLink (cnm 15) 15 "java/lang/String" "coder" "B" ∈ lwG := lwG_in (List.mem_of_getElem? (i := 1953) rfl) rfl
set_option maxRecDepth 100000 in
theorem fl_compact : Cond.fieldLink (cnm 15) 38 "java/lang/String" "COMPACT_STRINGS" "Z" ∈ lwG := lwG_in (List.mem_of_getElem? (i := 1440) rfl) rfl
set_option maxRecDepth 100000 in
theorem fl_fmt : Cond.fieldLink (cnm 15) 1053 "jdk/internal/util/Preconditions" "SIOOBE_FORMATTER" "Ljava/util/function/BiFunction;" ∈ lwG := lwG_in (List.mem_of_getElem? (i := 1459) rfl) rfl
set_option maxRecDepth 100000 in
theorem lk_15_335 : LkV 15 335 m_St_coder 0 := ⟨lc_St_coder, lwG_in (List.mem_of_getElem? (i := 1436) rfl) rfl, lwG_in (List.mem_of_getElem? (i := 1437) rfl) rfl, lwG_in (List.mem_of_getElem? (i := 1438) rfl) rfl⟩
set_option maxRecDepth 100000 in
theorem lk_15_492 : LkV 15 492 m_St_isLatin1 0 := ⟨lc_St_isLatin1, lwG_in (List.mem_of_getElem? (i := 1449) rfl) rfl, lwG_in (List.mem_of_getElem? (i := 1450) rfl) rfl, lwG_in (List.mem_of_getElem? (i := 1451) rfl) rfl⟩
set_option maxRecDepth 100000 in
theorem lk_15_495 : LkS 15 495 m_SL_charAt 2 := ⟨lc_SL_charAt, lwG_in (List.mem_of_getElem? (i := 1453) rfl) rfl, lwG_in (List.mem_of_getElem? (i := 1454) rfl) rfl⟩
set_option maxRecDepth 100000 in
theorem lk_16_9 : LkS 16 9 m_St_checkIndex 2 := ⟨lc_St_checkIndex, lwG_in (List.mem_of_getElem? (i := 1456) rfl) rfl, lwG_in (List.mem_of_getElem? (i := 1457) rfl) rfl⟩
set_option maxRecDepth 100000 in
theorem lk_15_1059 : LkS 15 1059 m_Pc_checkIndex 3 := ⟨lc_Pc_checkIndex, lwG_in (List.mem_of_getElem? (i := 1461) rfl) rfl, lwG_in (List.mem_of_getElem? (i := 1462) rfl) rfl⟩
/-- the letters of the strings -/
def sS (j : Nat) : List Int := (([[121], [97, 111, 110, 121, 107, 109], [114, 104, 108, 101], [99, 119, 111, 112, 103], [107, 110, 97, 108], [112, 116, 108, 109, 99]] : List (List Int))[j]?).getD []
def SS (μ : XM) : Prop := ∀ j, j < 6 → ∀ i, i < (sS j).length → xI μ (20 + j) i = w ((sS j).getD i 0)
theorem sS_shp : ∀ j, j < 6 → shp (20 + j) = some (.inr (1, (sS j).length)) ∧ 1 ≤ (sS j).length ∧ (sS j).length ≤ 6 := by decide
theorem sS_bd : ∀ j, j < 6 → ∀ i, i < (sS j).length → 97 ≤ (sS j).getD i 0 ∧ (sS j).getD i 0 ≤ 121 ∧ w ((sS j).getD i 0) &&& w 255 = w ((sS j).getD i 0) := by decide
theorem SS.fof {P : Nat → Prop} {μ μ' : XM} (h : SS μ) (ho : fof P μ μ') (hp : ∀ c, c < 32 → ¬ P c) : SS μ' := fun j hj i hi => by
  rw [ho.1 _ (hp _ (by omega))]
  exact h j hj i hi
theorem g_i2c {Γ : XG} {M : MM} {d : Nat} {b : Nat × Nat} {Q : Option Value → XM → Prop} {pc : Nat} {ls st : List Value} {μ : XM} {x v : Int32} (hv : (x.toUInt32 % 65536).toInt32 = v) (hd : decode (mC M) pc = .ok (.i2c, 1)) (k : G Γ M d b Q (pc + 1) ls (.int v :: st) μ) : G Γ M d b Q pc ls (.int x :: st) μ :=
  g_lift (fun _ _ _ _ _ _ _ _ _ _ _ _ _ _ _ F _ k => lv_i2c F.1 F.2.1 hd hv k) k
/-- the formatter is no long -/
def FM (Γ : XG) : Prop := (Γ.2.2.2.2.2.1).category = 1
section ST
variable {Γ : XG} {d : Nat} {μ : XM} {Q : Option Value → XM → Prop}
theorem C_stCoder (hd : 1 ≤ d) {j : Nat} (hj : j < 6) : Call Γ m_St_coder d [.ref (14 + j)] μ (KI (fun r μ' => μ' = μ ∧ r = w 0)) := by
  obtain ⟨d, rfl⟩ : ∃ e, d = e + 1 := ⟨d - 1, by omega⟩
  refine Call.of ok_St_coder (Nat.le_of_ble_eq_true rfl) ?_
  show G Γ m_St_coder (d + 1) (0, 0) _ 0 [.ref (14 + j)] [] μ
  refine g_compact (i := 38) fl_compact (by decide +kernel) ?_
  refine g_ifz_eq (pc' := 13) (off := 10) (by decide) (by decide +kernel) (fun q => absurd q (by decide)) (fun _ => ?_)
  refine g_aload_n (i := 0) (x := 14 + j) rfl (by decide +kernel) ?_
  refine g_strCoder (i := 15) hj fl_coder (by decide +kernel) ?_
  refine g_goto (pc' := 14) (off := 4) (by decide) (by decide +kernel) ?_
  exact g_ret (v := some (.int 0)) (ins := .ireturn) (by decide +kernel) ⟨rfl, .byte, rfl, rfl⟩ ⟨_, rfl, rfl, rfl⟩
theorem C_stLength (hd : 2 ≤ d) (hN : 574 ≤ xN μ) {j : Nat} (hj : j < 6) : Call Γ m_St_length d [.ref (14 + j)] μ (KI (fun r μ' => μ' = μ ∧ r = w (sS j).length)) := by
  obtain ⟨d, rfl⟩ : ∃ e, d = e + 2 := ⟨d - 2, by omega⟩
  have hs := (sS_shp j hj).1
  refine Call.of ok_St_length (Nat.le_of_ble_eq_true rfl) ?_
  show G Γ m_St_length (d + 2) (0, 0) _ 0 [.ref (14 + j)] [] μ
  refine g_aload_n (i := 0) (x := 14 + j) rfl (by decide +kernel) ?_
  refine g_strValue (i := 9) hj fl_value (by decide +kernel) ?_
  refine g_alen (ar_of hs (by omega) hN) (by decide +kernel) ?_
  refine g_aload_n (i := 0) (x := 14 + j) rfl (by decide +kernel) ?_
  refine g_invV (M' := m_St_coder) (b1 := 0) (b2 := 0) (As := []) (a := 14 + j) (st := [.int (w (sS j).length)]) lk_15_335 (by decide +kernel) rfl (dk_St_coder _) (Nat.le_of_ble_eq_true rfl) (Or.inr ⟨j, hj, rfl, rfl⟩) (C_stCoder (by omega) hj) ?_
  rintro _ μ1 ⟨v, rfl, rfl, rfl⟩ hn
  show G Γ m_St_length (d + 2) (0, 0) _ 9 [.ref (14 + j)] [.int (w 0), .int (w (sS j).length)] μ1
  refine g_ishr (by decide +kernel) ?_
  refine g_reti (by decide +kernel) rfl ⟨_, rfl, rfl, ?_⟩
  have : ∀ j, j < 6 → w ((sS j).length : Int) >>> (w 0 &&& 31) = w ((sS j).length : Int) := by decide
  exact this j hj
theorem C_isLatin1 (hd : 1 ≤ d) {j : Nat} (hj : j < 6) : Call Γ m_St_isLatin1 d [.ref (14 + j)] μ (KI (fun r μ' => μ' = μ ∧ r = w 1)) := by
  obtain ⟨d, rfl⟩ : ∃ e, d = e + 1 := ⟨d - 1, by omega⟩
  refine Call.of ok_St_isLatin1 (Nat.le_of_ble_eq_true rfl) ?_
  show G Γ m_St_isLatin1 (d + 1) (0, 0) _ 0 [.ref (14 + j)] [] μ
  refine g_compact (i := 38) fl_compact (by decide +kernel) ?_
  refine g_ifz_eq (pc' := 17) (off := 14) (by decide) (by decide +kernel) (fun q => absurd q (by decide)) (fun _ => ?_)
  refine g_aload_n (i := 0) (x := 14 + j) rfl (by decide +kernel) ?_
  refine g_strCoder (i := 15) hj fl_coder (by decide +kernel) ?_
  refine g_ifz_ne (pc' := 17) (off := 7) (by decide) (by decide +kernel) (fun q => absurd rfl q) (fun _ => ?_)
  refine g_iconst (n := 1) (by decide +kernel) ?_
  refine g_goto (pc' := 18) (off := 4) (by decide) (by decide +kernel) ?_
  exact g_retz (by decide +kernel) rfl (Or.inr rfl) ⟨_, rfl, rfl, rfl⟩
theorem C_pcCheck (hd : 1 ≤ d) (hf : FM Γ) {i n : Int} (h0 : 0 ≤ i) (h1 : i < n) (h2 : n < 1000) : Call Γ m_Pc_checkIndex d [.int (w i), .int (w n), Γ.2.2.2.2.2.1] μ (KI (fun r μ' => μ' = μ)) := by
  obtain ⟨d, rfl⟩ : ∃ e, d = e + 1 := ⟨d - 1, by omega⟩
  have el : lsOf [.int (w i), .int (w n), Γ.2.2.2.2.2.1] = [.int (w i), .int (w n), Γ.2.2.2.2.2.1] := by
    have hf' : ¬ (Γ.2.2.2.2.2.1).category = 2 := by unfold FM at hf; omega
    simp only [lsOf, List.flatMap_cons, List.flatMap_nil, if_neg hf']
    rfl
  refine Call.of ok_Pc_checkIndex (by rw [el]; exact (Nat.le_of_ble_eq_true rfl)) ?_
  rw [el]
  show G Γ m_Pc_checkIndex (d + 1) (0, 0) _ 0 [.int (w i), .int (w n), Γ.2.2.2.2.2.1] [] μ
  refine g_iload_n (i := 0) (x := w i) rfl (by decide +kernel) ?_
  refine g_ifz_lt (pc' := 9) (off := 8) (by decide) (by decide +kernel) (fun q => ?_) (fun _ => ?_)
  · rw [w_lt (by omega) (by omega) (by omega) (by omega)] at q
    omega
  refine g_iload_n (i := 0) (x := w i) rfl (by decide +kernel) ?_
  refine g_iload_n (i := 1) (x := w n) rfl (by decide +kernel) ?_
  refine g_icmp_lt (pc' := 16) (off := 10) (by decide) (by decide +kernel) (fun _ => ?_) (fun q => ?_)
  · refine g_iload_n (i := 0) (x := w i) rfl (by decide +kernel) ?_
    exact g_reti (by decide +kernel) rfl ⟨_, rfl, rfl⟩
  · rw [w_lt (by omega) (by omega) (by omega) (by omega)] at q
    omega
theorem C_stCheck (hd : 2 ≤ d) (hf : FM Γ) {i n : Int} (h0 : 0 ≤ i) (h1 : i < n) (h2 : n < 1000) : Call Γ m_St_checkIndex d [.int (w i), .int (w n)] μ (KV (fun μ' => μ' = μ)) := by
  obtain ⟨d, rfl⟩ : ∃ e, d = e + 2 := ⟨d - 2, by omega⟩
  refine Call.of ok_St_checkIndex (Nat.le_of_ble_eq_true rfl) ?_
  show G Γ m_St_checkIndex (d + 2) (0, 0) _ 0 [.int (w i), .int (w n)] [] μ
  refine g_iload_n (i := 0) (x := w i) rfl (by decide +kernel) ?_
  refine g_iload_n (i := 1) (x := w n) rfl (by decide +kernel) ?_
  refine g_fmt (i := 1053) fl_fmt (by decide +kernel) ?_
  refine g_invS (M' := m_Pc_checkIndex) (b1 := 0) (b2 := 0) (As := [.int (w i), .int (w n), Γ.2.2.2.2.2.1]) (st := []) lk_15_1059 (by decide +kernel) rfl (dk_Pc_checkIndex _) (Nat.le_of_ble_eq_true rfl) (C_pcCheck (by omega) hf h0 h1 h2) ?_
  rintro _ μ1 ⟨v, rfl, rfl⟩ hn
  show G Γ m_St_checkIndex (d + 2) (0, 0) _ 8 [.int (w i), .int (w n)] [.int v] μ1
  refine g_pop rfl (by decide +kernel) ?_
  exact g_retv (by decide +kernel) rfl ⟨rfl, rfl⟩
theorem C_slCharAt (hd : 3 ≤ d) (hf : FM Γ) (hN : 574 ≤ xN μ) (hS : SS μ) {j i : Nat} (hj : j < 6) (hi : i < (sS j).length) : Call Γ m_SL_charAt d [.ref (20 + j), .int (w i)] μ (KI (fun r μ' => μ' = μ ∧ r = w ((sS j).getD i 0))) := by
  obtain ⟨d, rfl⟩ : ∃ e, d = e + 3 := ⟨d - 3, by omega⟩
  obtain ⟨hs, hl1, hl2⟩ := sS_shp j hj
  obtain ⟨b1, b2, b3⟩ := sS_bd j hj i hi
  refine Call.of ok_SL_charAt (Nat.le_of_ble_eq_true rfl) ?_
  show G Γ m_SL_charAt (d + 3) (0, 0) _ 0 [.ref (20 + j), .int (w i)] [] μ
  refine g_iload_n (i := 1) (x := w i) rfl (by decide +kernel) ?_
  refine g_aload_n (i := 0) (x := 20 + j) rfl (by decide +kernel) ?_
  refine g_alen (ar_of hs (by omega) hN) (by decide +kernel) ?_
  refine g_invS (M' := m_St_checkIndex) (b1 := 0) (b2 := 0) (As := [.int (w i), .int (w (sS j).length)]) (st := []) lk_16_9 (by decide +kernel) rfl (dk_St_checkIndex _) (Nat.le_of_ble_eq_true rfl) (C_stCheck (by omega) hf (by omega) (by omega) (by omega)) ?_
  rintro _ μ1 ⟨rfl, rfl⟩ hn
  show G Γ m_SL_charAt (d + 3) (0, 0) _ 6 [.ref (20 + j), .int (w i)] [] μ1
  refine g_aload_n (i := 0) (x := 20 + j) rfl (by decide +kernel) ?_
  refine g_iload_n (i := 1) (x := w i) rfl (by decide +kernel) ?_
  refine g_bald (by decide +kernel) (inb_of hs (by omega) hN (by omega) (by omega)) ?_
  rw [w_cln (by omega), hS j hj i hi]
  refine g_sipush (n := 255) (by decide) (by decide +kernel) ?_
  refine g_iand (by decide +kernel) ?_
  rw [b3]
  refine g_i2c (v := w ((sS j).getD i 0)) (lg_i2c_word (by rw [w_toInt (by omega) (by omega)]; omega) (by rw [w_toInt (by omega) (by omega)]; omega)) (by decide +kernel) ?_
  refine g_ret (v := some (.int (w ((sS j).getD i 0)))) (ins := .ireturn) (by decide +kernel) ⟨rfl, .char, rfl, ?_⟩ ⟨_, rfl, rfl, rfl⟩
  show Value.int _ = Value.int _
  rw [lg_i2c_small (by rw [w_toInt (by omega) (by omega)]; omega) (by rw [w_toInt (by omega) (by omega)]; omega)]
theorem C_stCharAt (hd : 4 ≤ d) (hf : FM Γ) (hN : 574 ≤ xN μ) (hS : SS μ) {j i : Nat} (hj : j < 6) (hi : i < (sS j).length) : Call Γ m_St_charAt d [.ref (14 + j), .int (w i)] μ (KI (fun r μ' => μ' = μ ∧ r = w ((sS j).getD i 0))) := by
  obtain ⟨d, rfl⟩ : ∃ e, d = e + 4 := ⟨d - 4, by omega⟩
  obtain ⟨b1, b2, b3⟩ := sS_bd j hj i hi
  refine Call.of ok_St_charAt (Nat.le_of_ble_eq_true rfl) ?_
  show G Γ m_St_charAt (d + 4) (0, 0) _ 0 [.ref (14 + j), .int (w i)] [] μ
  refine g_aload_n (i := 0) (x := 14 + j) rfl (by decide +kernel) ?_
  refine g_invV (M' := m_St_isLatin1) (b1 := 0) (b2 := 0) (As := []) (a := 14 + j) (st := []) lk_15_492 (by decide +kernel) rfl (dk_St_isLatin1 _) (Nat.le_of_ble_eq_true rfl) (Or.inr ⟨j, hj, rfl, rfl⟩) (C_isLatin1 (by omega) hj) ?_
  rintro _ μ1 ⟨v, rfl, rfl, rfl⟩ hn
  show G Γ m_St_charAt (d + 4) (0, 0) _ 4 [.ref (14 + j), .int (w i)] [.int (w 1)] μ1
  refine g_ifz_eq (pc' := 16) (off := 12) (by decide) (by decide +kernel) (fun q => absurd q (by decide)) (fun _ => ?_)
  refine g_aload_n (i := 0) (x := 14 + j) rfl (by decide +kernel) ?_
  refine g_strValue (i := 9) hj fl_value (by decide +kernel) ?_
  refine g_iload_n (i := 1) (x := w i) rfl (by decide +kernel) ?_
  refine g_invS (M' := m_SL_charAt) (b1 := 0) (b2 := 0) (As := [.ref (20 + j), .int (w i)]) (st := []) lk_15_495 (by decide +kernel) rfl (dk_SL_charAt _) (Nat.le_of_ble_eq_true rfl) (C_slCharAt (by omega) hf hN hS hj hi) ?_
  rintro _ μ2 ⟨v, rfl, rfl, rfl⟩ hn2
  show G Γ m_St_charAt (d + 4) (0, 0) _ 15 [.ref (14 + j), .int (w i)] [.int (w ((sS j).getD i 0))] μ2
  refine g_ret (v := some (.int (w ((sS j).getD i 0)))) (ins := .ireturn) (by decide +kernel) ⟨rfl, .char, rfl, ?_⟩ ⟨_, rfl, rfl, rfl⟩
  show Value.int _ = Value.int _
  rw [lg_i2c_small (by rw [w_toInt (by omega) (by omega)]; omega) (by rw [w_toInt (by omega) (by omega)]; omega)]
/-- the place of c among the letters of string j, from i on -/
def spt (j : Nat) (c : Int) : Int := sch (fun i => decide ((sS j).getD i 0 = c)) (sS j).length 0
theorem isAmong_G (hf : FM Γ) (hN : 574 ≤ xN μ) (hS : SS μ) {j : Nat} (hj : j < 6) {c : Int} (c1 : -1 ≤ c) (c2 : c ≤ 1000) : ∀ (f i : Nat), i + f = (sS j).length → (¬ sch (fun i => decide ((sS j).getD i 0 = c)) f i = -1 → Q (some (.int (w 1))) μ) → (sch (fun i => decide ((sS j).getD i 0 = c)) f i = -1 → Q (some (.int (w 0))) μ) → G Γ m_MO_isAmong (d + 5) (0, 0) Q 2 [.ref (14 + j), .int (w c), .int (w i)] [] μ := by
  obtain ⟨hs, hl1, hl2⟩ := sS_shp j hj
  intro f
  induction f with
  | zero =>
    intro i hi h1 h0
    refine B_MO_isAmong_2 ⟨⟨j, hj, rfl⟩, ?_⟩
    refine (C_stLength (by omega) hN hj).conseq (KI.mono ?_)
    rintro r μ1 ⟨rfl, rfl⟩
    rw [w_lt (by omega) (by omega) (by omega) (by omega)]
    exact ⟨fun q => absurd q (by omega), fun _ => h0 rfl⟩
  | succ f ih =>
    intro i hi h1 h0
    refine B_MO_isAmong_2 ⟨⟨j, hj, rfl⟩, ?_⟩
    refine (C_stLength (by omega) hN hj).conseq (KI.mono ?_)
    rintro r μ1 ⟨rfl, rfl⟩
    rw [w_lt (by omega) (by omega) (by omega) (by omega)]
    refine ⟨fun _ => ⟨⟨j, hj, rfl⟩, ?_⟩, fun q => absurd (by omega) q⟩
    refine (C_stCharAt (by omega) hf hN hS hj (i := i) (by omega)).conseq (KI.mono ?_)
    rintro r μ2 ⟨rfl, rfl⟩
    obtain ⟨b1, b2, b3⟩ := sS_bd j hj i (by omega)
    rw [w_inj (by omega) (by omega) (by omega) (by omega), w_add]
    unfold sch at h1 h0
    refine ⟨fun q => ?_, fun q => ?_⟩
    · rw [if_pos (by simpa using q)] at h1
      exact h1 (by omega)
    · rw [if_neg (by simpa using q)] at h1 h0
      exact ih (i + 1) (by omega) h1 h0
theorem C_isAmong (hd : 5 ≤ d) (hf : FM Γ) (hN : 574 ≤ xN μ) (hS : SS μ) {j : Nat} (hj : j < 6) {c : Int} (c1 : -1 ≤ c) (c2 : c ≤ 1000) : Call Γ m_MO_isAmong d [.ref (14 + j), .int (w c)] μ (KI (fun r μ' => μ' = μ ∧ ((¬ spt j c = -1 ∧ r = w 1) ∨ (spt j c = -1 ∧ r = w 0)))) := by
  obtain ⟨d, rfl⟩ : ∃ e, d = e + 5 := ⟨d - 5, by omega⟩
  exact Call.of ok_MO_isAmong (Nat.le_of_ble_eq_true rfl) (B_MO_isAmong_0 (isAmong_G hf hN hS hj c1 c2 (sS j).length 0 (by omega) (fun q => ⟨_, rfl, rfl, Or.inl ⟨q, rfl⟩⟩) (fun q => ⟨_, rfl, rfl, Or.inr ⟨q, rfl⟩⟩)))
theorem spotOf_G (hf : FM Γ) (hN : 574 ≤ xN μ) (hS : SS μ) {j : Nat} (hj : j < 6) {c : Int} (c1 : -1 ≤ c) (c2 : c ≤ 1000) : ∀ (f i : Nat), i + f = (sS j).length → Q (some (.int (w (sch (fun i => decide ((sS j).getD i 0 = c)) f i)))) μ → G Γ m_MO_spotOf (d + 5) (0, 0) Q 2 [.ref (14 + j), .int (w c), .int (w i)] [] μ := by
  obtain ⟨hs, hl1, hl2⟩ := sS_shp j hj
  intro f
  induction f with
  | zero =>
    intro i hi h1
    refine B_MO_spotOf_2 ⟨⟨j, hj, rfl⟩, ?_⟩
    refine (C_stLength (by omega) hN hj).conseq (KI.mono ?_)
    rintro r μ1 ⟨rfl, rfl⟩
    rw [w_lt (by omega) (by omega) (by omega) (by omega)]
    exact ⟨fun q => absurd q (by omega), fun _ => h1⟩
  | succ f ih =>
    intro i hi h1
    refine B_MO_spotOf_2 ⟨⟨j, hj, rfl⟩, ?_⟩
    refine (C_stLength (by omega) hN hj).conseq (KI.mono ?_)
    rintro r μ1 ⟨rfl, rfl⟩
    rw [w_lt (by omega) (by omega) (by omega) (by omega)]
    refine ⟨fun _ => ⟨⟨j, hj, rfl⟩, ?_⟩, fun q => absurd (by omega) q⟩
    refine (C_stCharAt (by omega) hf hN hS hj (i := i) (by omega)).conseq (KI.mono ?_)
    rintro r μ2 ⟨rfl, rfl⟩
    obtain ⟨b1, b2, b3⟩ := sS_bd j hj i (by omega)
    rw [w_inj (by omega) (by omega) (by omega) (by omega), w_add]
    unfold sch at h1
    refine ⟨fun q => ?_, fun q => ?_⟩
    · rw [if_pos (by simpa using q)] at h1
      exact h1
    · rw [if_neg (by simpa using q)] at h1
      exact ih (i + 1) (by omega) h1
theorem C_spotOf (hd : 5 ≤ d) (hf : FM Γ) (hN : 574 ≤ xN μ) (hS : SS μ) {j : Nat} (hj : j < 6) {c : Int} (c1 : -1 ≤ c) (c2 : c ≤ 1000) : Call Γ m_MO_spotOf d [.ref (14 + j), .int (w c)] μ (KI (fun r μ' => μ' = μ ∧ r = w (spt j c))) := by
  obtain ⟨d, rfl⟩ : ∃ e, d = e + 5 := ⟨d - 5, by omega⟩
  exact Call.of ok_MO_spotOf (Nat.le_of_ble_eq_true rfl) (B_MO_spotOf_0 (spotOf_G hf hN hS hj c1 c2 (sS j).length 0 (by omega) ⟨_, rfl, rfl, rfl⟩))
end ST
