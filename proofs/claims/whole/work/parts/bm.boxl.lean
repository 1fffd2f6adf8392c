/-! THE LAW'S BOX: it catches -/
def m_LW_box : MM := (12, ⟨"FrostBoxLaw", "box", "(LFrostBox;II[J)I"⟩, method_3_code, 5, some .int, 1, 6)
theorem ok_LW_box : mOK m_LW_box := ⟨by decide +kernel, by decide +kernel⟩
set_option maxRecDepth 100000 in
theorem lk_12_7 : LkV 12 7 m_FB_box 2 := ⟨lc_FB_box, lwG_in (List.mem_of_getElem? (i := 1133) rfl) rfl, lwG_in (List.mem_of_getElem? (i := 1134) rfl) rfl, lwG_in (List.mem_of_getElem? (i := 1135) rfl) rfl⟩
def hhB : List (Nat × Nat × Nat × Nat) := [(0, 10, 13, 13)]
def mWH : List Cond := .codeWith (mY m_LW_box) (mC m_LW_box) (mL m_LW_box) (mT m_LW_box) hhB :: lwG
/-- as Call, for the one method that has a table of handlers -/
def CallH (Γ : XG) (d : Nat) (av : List Value) (μ : XM) (Q : Option Value → XM → Prop) : Prop := Met Γ.1 (mY m_LW_box) mWH (mR m_LW_box d) (PcX Γ av μ) (QcX Γ μ Q) (mc m_LW_box) (ms m_LW_box) (gA Γ)
theorem CallH.of {Γ : XG} {d : Nat} {av : List Value} {μ : XM} {Q : Option Value → XM → Prop} (hl : (lsOf av).length ≤ mL m_LW_box)
    (h : ∀ (p : Program) (e : Env) (s : State) (m : MethodId) (args : Array Value) (below : List Frame) (meth : Method) (c : Code) (Z : State → Prop) (lsA : Array Slot), FixX Γ m_LW_box d p (headSpec mWH (mR m_LW_box d)).room s m args meth c → c.exceptionTable.toList = tableOf hhB → RetX Γ m_LW_box Q p e (headSpec mWH (mR m_LW_box d)).room s m args below meth c Z → Rep Γ μ s.heap → StX Γ μ s → LSr Γ lsA (mL m_LW_box) (lsOf av) →
      W p Γ.1 e (headSpec mWH (mR m_LW_box d)).room s m args below meth c s.heap [] 0 0 Z (F0 m 0 lsA [])) : CallH Γ d av μ Q := by
  have hx : vx_Met Γ.1 (mY m_LW_box) mWH (mR m_LW_box d) (PcX Γ av μ) (QcX Γ μ Q) (fun _ _ _ => False) (mc m_LW_box) (ms m_LW_box) (gA Γ) := by
    refine vx_ofWH (cc := mC m_LW_box) (maxL := mL m_LW_box) (ret := mT m_LW_box) (hh := hhB) (ws' := lwG) ok_LW_box.1 rfl ?_
    intro p e s m args below meth c s₁ B hml hv
    obtain ⟨rfl, hR, hK, hT⟩ := hv
    have hts := atoms_spec (ws := mWH) B.pre
    have hown : s.vm.findClass (cnm (mOwn m_LW_box)) = some m.cls := by rw [ok_LW_box.2]; exact findClass_of_methodNamed B.named
    have hlocks := B.notSynchronized
    have hbase : gB Γ ≤ s.heap.size := by rw [hR.1]; omega
    have F : FixX Γ m_LW_box d p (headSpec mWH (mR m_LW_box d)).room s m (av.map (tr Γ)).toArray meth c := ⟨B.exec, B.bytes, B.returns, hml, hown, fun w hw => hts w (List.mem_cons_of_mem _ hw), hlocks, (name_of_methodNamed B.named B.method).1, hK, hbase, Nat.le_refl _, Nat.le_refl _⟩
    have RX : RetX Γ m_LW_box Q p e (headSpec mWH (mR m_LW_box d)).room s m (av.map (tr Γ)).toArray below meth c (vx_MQ below (QcX Γ μ Q) (fun _ _ _ => False) (av.map (tr Γ)).toArray s (mc m_LW_box) (ms m_LW_box) (gA Γ)) := by
      intro v μ' H locs cells slots lsA pc ins hq hR' hT' hS' hc hs hd hv
      refine vx_ret ?_
      refine W.widen (k := mc m_LW_box) (n := ms m_LW_box) hc hs ?_
      have hQ : ∀ t : State, t.heap = H → s.WarmedH t.vm → QcX Γ μ Q (av.map (tr Γ)).toArray s (.returned (v.map (tr Γ))) t := fun t ht _ =>
        ⟨v, μ', rfl, hq, by rw [ht]; exact hR', fun U hU => hT.trans hT' hU, by rw [ht]; exact hS'.1, fun q h1 h2 => by rw [ht]; exact hS'.2.1 q h1 h2⟩
      match v, hv, hQ with
      | none, hv, hQ =>
        obtain ⟨rfl, hr⟩ := hv
        exact W.vret F.1 F.2.1 (F.2.2.1.trans hr) hQ hS'.2.2 hd hlocks
      | some (.int x), hv, hQ =>
        obtain ⟨rfl, ty, hr, hn⟩ := hv
        exact W.zret F.1 F.2.1 (F.2.2.1.trans hr) hn hQ hS'.2.2 hd hlocks
      | some (.long x), hv, hQ =>
        obtain ⟨rfl, hr⟩ := hv
        exact W.lret F.1 F.2.1 (F.2.2.1.trans hr) hQ hS'.2.2 hd hlocks
    have hlv := lv_entry (av.map (tr Γ)) (n := mL m_LW_box) (by rw [lg_len]; exact hl)
    rw [lg_entry_eq]
    exact h p e s m _ below meth c _ _ F (vx_table (x := mY m_LW_box) B (hts _ List.mem_cons_self)) RX hR hT ⟨hlv.1, hlv.2.1, fun i hi => by
      have := lsOf_args Γ av 0 i hi
      rw [Nat.zero_add] at this
      exact hlv.2.2 _ this⟩
  intro p e ha hc hk s m args below hf hp hpx hh
  obtain ⟨t, o, h1, h2, h3, h4⟩ := hx p e ha hc hk s m args below hf hp hpx hh
  rcases h4 with h4 | ⟨q, -, E, ce, L, hx, -⟩
  · exact ⟨t, o, h1, h2, h3, h4⟩
  · exact hx.elim
section BL
variable {Γ : XG} {d h n s m : Nat} {ru : Nat → Int} {ki bx : Nat → Nat → Int} {ls : Int → Int → Int → Int → Int → Int → Int} {μ : XM}
theorem C_boxL (ht : Γ.1.stackTraces = false) (hd : 9 ≤ d) (hF : FQ μ h n ru ki s bx m ls) {z q : Int} (z1 : -2147483648 ≤ z) (z2 : z < 2147483648) (q1 : -2147483648 ≤ q) (q2 : q < 2147483648) : CallH Γ d [.ref 32, .int (w z), .int (w q), .ref 573] μ (KI (fun r μ' => (BOK s z q ∧ r = w 0 ∧ ∃ μ1, fof scr μ μ1 ∧ μ' = sL μ1 573 0 (w (boxv ls ki bx m s z.toNat q)).toInt64) ∨ (¬ BOK s z q ∧ r = w 1 ∧ ∃ k, xN μ ≤ k ∧ μ' = nN μ k))) := by
  obtain ⟨d, rfl⟩ : ∃ e, d = e + 1 := ⟨d - 1, by omega⟩
  have hRF := hF.1
  have ho : ob μ 32 10 := hRF.o rfl (by omega)
  by_cases hb : BOK s z q
  · refine CallH.of (Nat.le_of_ble_eq_true rfl) fun p e sx mx args below meth c Z lsA F htab RX hR hT hL => ?_
    have hG : G Γ m_LW_box (d + 1) (1, 6) (KI (fun r μ' => (BOK s z q ∧ r = w 0 ∧ ∃ μ1, fof scr μ μ1 ∧ μ' = sL μ1 573 0 (w (boxv ls ki bx m s z.toNat q)).toInt64) ∨ (¬ BOK s z q ∧ r = w 1 ∧ ∃ k, xN μ ≤ k ∧ μ' = nN μ k))) 0 [.ref 32, .int (w z), .int (w q), .ref 573] [] μ := by
      refine run_ok (pc' := 5) [(.aload_n 3, 0, 0, 0), (.iconst 0, 0, 0, 0), (.aload_n 0, 0, 0, 0), (.iload_n 1, 0, 0, 0), (.iload_n 2, 0, 0, 0)] _ _ _ _ (by decide +kernel) ?_
      show G Γ m_LW_box (d + 1) (1, 6) _ 5 [.ref 32, .int (w z), .int (w q), .ref 573] [.int (w q), .int (w z), .ref 32, .int (w 0), .ref 573] μ
      refine g_invV (M := m_LW_box) (M' := m_FB_box) (i := 7) (b1 := 0) (b2 := 0) (As := [.int (w z), .int (w q)]) (a := 32) (st := [.int (w 0), .ref 573]) lk_12_7 (by decide +kernel) rfl (dk_FB_box d) (Nat.le_of_ble_eq_true rfl) (Or.inl ⟨10, ho, rfl⟩) (C_boxF (by omega) hF hb) ?_
      rintro _ μ1 ⟨r, rfl, o1, rfl⟩ hn
      show G Γ m_LW_box (d + 1) (0, 0) _ 8 [.ref 32, .int (w z), .int (w q), .ref 573] [.int (w (boxv ls ki bx m s z.toNat q)), .int (w 0), .ref 573] μ1
      refine run_ok (pc' := 9) [(.i2l, 0, 0, 0)] _ _ _ _ (by decide +kernel) ?_
      show G Γ m_LW_box (d + 1) (0, 0) _ 9 [.ref 32, .int (w z), .int (w q), .ref 573] [.long (w (boxv ls ki bx m s z.toNat q)).toInt64, .int (w 0), .ref 573] μ1
      refine g_last (by decide +kernel) ⟨by decide, 1, ⟨rfl, Nat.lt_of_lt_of_le (by omega : 573 < 574) (Nat.le_trans hRF.1 hn)⟩, w_in (by omega) (by omega) (by omega)⟩ ?_
      rw [show (w 0).toNatClampNeg = 0 by decide]
      refine run_ok (pc' := 18) [(.goto 7, 0, 0, 0), (.iconst 0, 0, 0, 0)] _ _ _ _ (by decide +kernel) ?_
      exact g_reti (by decide +kernel) rfl ⟨_, rfl, Or.inl ⟨hb, rfl, μ1, o1, rfl⟩⟩
    exact hG p e _ sx mx args below meth c Z F RX sx.heap [] 0 0 lsA hR hT va_S.rf hL (by show 0 + 1 ≤ 1; omega) (by show 0 + 6 ≤ 6; omega)
  · refine CallH.of (Nat.le_of_ble_eq_true rfl) fun p e sx mx args below meth c Z lsA F htab RX hR hT hL => ?_
    refine lv_aload_n (i := 3) (x := gs Γ 573) F.1 F.2.1 (show decode (mC m_LW_box) 0 = .ok (.aload_n 3, 1) by decide +kernel) rfl (hL.at (v := .ref 573) rfl (by simp [jk])) ?_
    refine lv_iconst (v := w 0) F.1 F.2.1 (show decode (mC m_LW_box) 1 = .ok (.iconst 0, 1) by decide +kernel) rfl ?_
    refine lv_aload_n (i := 0) (x := gs Γ 32) F.1 F.2.1 (show decode (mC m_LW_box) 2 = .ok (.aload_n 0, 1) by decide +kernel) rfl (hL.at (v := .ref 32) rfl (by simp [jk])) ?_
    refine lv_iload_n (i := 1) (x := w z) F.1 F.2.1 (show decode (mC m_LW_box) 3 = .ok (.iload_n 1, 1) by decide +kernel) rfl (hL.at (v := .int (w z)) rfl (by simp [jk])) ?_
    refine lv_iload_n (i := 2) (x := w q) F.1 F.2.1 (show decode (mC m_LW_box) 4 = .ok (.iload_n 2, 1) by decide +kernel) rfl (hL.at (v := .int (w q)) rfl (by simp [jk])) ?_
    have hrun : vx_Run p Γ.1 e (headSpec mWH (mR m_LW_box (d + 1))).room sx mx args below meth c sx.heap [] 0 0 (mc m_FB_box) (ms m_FB_box) (F0 mx 5 lsA [.int (w q), .int (w z), .ref (gs Γ 32), .int (w 0), .ref (gs Γ 573)]) [.int (w 0), .ref (gs Γ 573)] (fun _ _ _ => False) (nsX Γ μ) (gA Γ) :=
      vx_runV (As := [.int (w z), .int (w q)]) (b := gs Γ 32) ⟨F.1, F.2.1, F.2.2.2.1, F.2.2.2.2.1, F.2.2.2.2.2.1⟩ (X_boxF ht (by omega) hF z1 z2 q1 q2 hb) ⟨callB_x (i := 7) F lk_12_7.1 lk_12_7.2.1 (dk_FB_box d), F.2.2.2.2.2.1 _ lk_12_7.2.2.1, F.2.2.2.2.2.1 _ lk_12_7.2.2.2⟩ ⟨PcX.blind _ _ _, Rcv.at (M' := m_FB_box) (Or.inl ⟨10, ho, rfl⟩) F hR hT va_S.rf, pre_x F hR hT va_S.rf⟩ rfl rfl hL.1 rfl (by show 2 * 0 + 2 ≤ 8; omega) (show decode (mC m_LW_box) 5 = .ok (.invokevirtual 7, 3) by decide +kernel) ⟨by show 0 + 1 ≤ 1; omega, by show 0 + 6 ≤ 6; omega⟩
    intro T hTh X
    rcases hrun T hTh X with ⟨v, st₀, t, T', L, h0, X', hLf, e1, e2, hq, hgo⟩ | ⟨q9, st₀, t, T', L, E, ce, h0, X', hLf, e1, e2, ⟨k, hk, ⟨rfl, hR'⟩, hF1⟩, hce, hcv, hcl, hst⟩
    · exact hq.elim
    · have hS' : va_S (gA Γ) sx.heap t.heap ([] ++ L) := ⟨by rw [← h0]; exact hF1.1, fun x y1 y2 => by rw [hF1.2 x (by rw [h0]; exact y1) y2, h0], fun x hx => hLf x (by simpa using hx)⟩
      have K : vx_W p Γ.1 e (headSpec mWH (mR m_LW_box (d + 1))).room sx mx args below meth c t.heap ([] ++ L) (0 + mc m_FB_box) (0 + ms m_FB_box) Z (F0 mx 5 lsA [.int (w 0), .ref (gs Γ 573)]) q9 := by
        refine vx_catch (own := "FrostBoxLaw") (name := nseN) F.2.2.2.2.1 [] ⟨0, 10, 13, 13⟩ [] (by rw [htab]; rfl) (fun z hz => nomatch hz) (by decide) (by decide) (F.2.2.2.2.2.1 _ ns_link.2.2) (va_Nw.use rfl (hT.2.2.2.2.2.2.2.2.2.2 (.castable nseN nseN) (by decide))) hce hcv hcl ?_
        refine lv_astore (i := 4) (nL := mL m_LW_box) (lv := lvOf Γ (mL m_LW_box) (lsOf [.ref 32, .int (w z), .int (w q), .ref 573])) F.1 F.2.1 (show decode (mC m_LW_box) 13 = .ok (.astore 4, 2) by decide +kernel) hL.lv (by decide) rfl fun ls' h' => ?_
        have hG : G Γ m_LW_box (d + 1) (0, 0) (KI (fun r μ' => (BOK s z q ∧ r = w 0 ∧ ∃ μ1, fof scr μ μ1 ∧ μ' = sL μ1 573 0 (w (boxv ls ki bx m s z.toNat q)).toInt64) ∨ (¬ BOK s z q ∧ r = w 1 ∧ ∃ k, xN μ ≤ k ∧ μ' = nN μ k))) 15 [] [] (nN μ k) := by
          refine run_ok (pc' := 16) [(.iconst 1, 0, 0, 0)] _ _ _ _ (by decide +kernel) ?_
          exact g_reti (by decide +kernel) rfl ⟨_, rfl, Or.inr ⟨hb, rfl, k, hk, rfl⟩⟩
        exact hG p e _ sx mx args below meth c Z F RX t.heap ([] ++ L) (0 + mc m_FB_box) (0 + ms m_FB_box) ls' hR' (hT.upd (fun _ _ _ => rfl)) hS' ⟨h'.1, h'.2.1, fun i hi => absurd (nth_nil i) hi⟩ (by show 0 + 1 + 0 ≤ 1; omega) (by show 0 + 6 + 0 ≤ 6; omega)
      obtain ⟨t2, a1, b1⟩ := K T' e1 X'
      exact ⟨t2, hst.trans a1, b1⟩
end BL
