/-! THE CLASS'S BOX: it returns, or throws -/
section BF
variable {Γ : XG} {d h n s m : Nat} {ru : Nat → Int} {ki bx : Nat → Nat → Int} {ls : Int → Int → Int → Int → Int → Int → Int} {μ : XM}
theorem vpl_vw {i : Nat} (hi : i < s) : vw ls ki bx m i 0 0 i = vpl ls ki bx m s (s - 1 - i) := by
  unfold vpl
  rw [show s - 1 - (s - 1 - i) = i by omega]
theorem C_boxF (hd : 5 ≤ d) (hF : FQ μ h n ru ki s bx m ls) {z q : Int} (hb : BOK s z q) : Call Γ m_FB_box d [.ref 32, .int (w z), .int (w q)] μ (KI (fun r μ' => fof scr μ μ' ∧ r = w (boxv ls ki bx m s z.toNat q))) := by
  obtain ⟨d, rfl⟩ : ∃ e, d = e + 1 := ⟨d - 1, by omega⟩
  obtain ⟨hR, hH, hW, hP, hK⟩ := hF
  obtain ⟨z0, z1, q0, q6⟩ := hb
  have r9 : xR μ 32 9 = some 67 := hR.r 32 9 67 rfl
  have h8 := hP.2.1
  obtain ⟨v, rfl⟩ : ∃ v : Nat, z = v := ⟨z.toNat, by omega⟩
  have ev : ((v : Nat) : Int).toNat = v := by omega
  have hi : s - 1 - v < s := by omega
  have ei : (s : Int) - 1 - (v : Int) = ((s - 1 - v : Nat) : Int) := by omega
  refine Call.of ok_FB_box (Nat.le_of_ble_eq_true rfl) (B_FB_box_0 (hR.o rfl (by omega)) r9 hP.1.ob ?_)
  refine (C_hasPlace (by omega) hP (by omega) (by omega)).conseq (KI.mono ?_)
  rintro r μ1 ⟨rfl, ⟨-, -, rfl⟩ | ⟨g1, -⟩⟩
  · refine ⟨fun x => absurd x (by decide), fun _ => ?_⟩
    rw [w_lt (by omega) (by omega) (by omega) (by omega), w_lt (by omega) (by omega) (by omega) (by omega)]
    refine ⟨fun x => by omega, fun _ => ⟨fun x => by omega, fun _ => ⟨r9, ?_⟩⟩⟩
    refine (C_indexOf (by omega) hP).conseq (KI.mono ?_)
    rintro r μ3 ⟨rfl, rfl⟩
    obtain ⟨p1, p2, p3, p4⟩ := (hP.2.2.2.2.2 (s - 1 - v) hi).1
    obtain ⟨x0, x1, x2, x3⟩ := hP.1.2.2
    have hbb := (hP.2.2.2.2.2 (s - 1 - v) hi).2
    rw [ei, w_lt (by omega) (by omega) (by omega) (by omega), w_inj (by omega) (by omega) (by omega) (by omega), w_inj (by omega) (by omega) (by omega) (by omega), w_inj (by omega) (by omega) (by omega) (by omega), w_inj (by omega) (by omega) (by omega) (by omega), w_inj (by omega) (by omega) (by omega) (by omega), w_inj (by omega) (by omega) (by omega) (by omega), w_cln (by omega)]
    have hin : ∀ a, shp a = some (.inr (0, 8)) → a < 574 → inb μ3 0 a (w ((s - 1 - v : Nat) : Int)) := fun a e ha => inb_of e ha hR.1 (by omega) (by omega)
    unfold boxv
    rw [ev]
    refine ⟨fun x => ⟨_, rfl, fof.rf _ _, ?_⟩, fun x => ⟨r9, 68, x0, hin 68 rfl (by omega), _, rfl, fof.rf _ _, ?_⟩, fun x => ⟨r9, 69, x1, hin 69 rfl (by omega), _, rfl, fof.rf _ _, ?_⟩, fun x => ⟨r9, 70, x2, hin 70 rfl (by omega), _, rfl, fof.rf _ _, ?_⟩, fun x => ⟨r9, ?_⟩, fun x => ⟨r9, ?_⟩, fun x => ?_⟩
    · rw [if_neg (by omega), if_neg (by omega), if_neg (by omega), if_neg (by omega), if_neg (by omega), if_neg (by omega)]
    · rw [if_pos x]; exact p1
    · rw [if_neg (by omega), if_pos x]; exact p2
    · rw [if_neg (by omega), if_neg (by omega), if_pos x]; exact p3
    · refine (C_hasLabel (by omega) hP hi).conseq (KI.mono ?_)
      rw [if_neg (by omega), if_neg (by omega), if_neg (by omega), if_pos x]
      rintro r μ4 ⟨rfl, ⟨g, rfl⟩ | ⟨g, rfl⟩⟩
      · exact ⟨fun y => absurd y (by decide), fun _ => ⟨_, rfl, fof.rf _ _, by rw [if_neg g]⟩⟩
      · exact ⟨fun _ => ⟨_, rfl, fof.rf _ _, by rw [if_pos g]⟩, fun y => absurd rfl y⟩
    · refine (C_valueOf (by omega) hR hH hW hP hK (by omega) hi).conseq (KI.mono ?_)
      rintro r μ4 ⟨o4, rfl⟩
      refine ⟨_, rfl, o4, ?_⟩
      rw [if_neg (by omega), if_neg (by omega), if_neg (by omega), if_neg (by omega), if_pos x, vpl_vw hi, show s - 1 - (s - 1 - v) = v by omega]
    · refine (C_weightOfF (by omega) hR hH hP hK hi).conseq (KI.mono ?_)
      rintro r μ4 ⟨rfl, rfl⟩
      refine ⟨_, rfl, fof.rf _ _, ?_⟩
      rw [if_neg (by omega), if_neg (by omega), if_neg (by omega), if_neg (by omega), if_neg (by omega), if_pos x]
  · exact absurd ⟨z0, z1⟩ g1
theorem X_boxF (ht : Γ.1.stackTraces = false) (hd : 8 ≤ d) (hF : FQ μ h n ru ki s bx m ls) {z q : Int} (z1 : -2147483648 ≤ z) (z2 : z < 2147483648) (q1 : -2147483648 ≤ q) (q2 : q < 2147483648) (hb : ¬ BOK s z q) : vx_Met Γ.1 (mY m_FB_box) (mW m_FB_box) (mR m_FB_box d) (PcX Γ [.ref 32, .int (w z), .int (w q)] μ) (fun _ _ _ _ => False) (nsX Γ μ) (mc m_FB_box) (ms m_FB_box) (gA Γ) := by
  obtain ⟨d, rfl⟩ : ∃ e, d = e + 1 := ⟨d - 1, by omega⟩
  have hRF := hF.1
  have hP := hF.2.2.2.1
  refine vx_ofW (cc := mC m_FB_box) (maxL := mL m_FB_box) (ret := mT m_FB_box) (ws' := lwG) ok_FB_box.1 rfl ?_
  intro p e sx mx args below meth c s₁ B hml htab hv
  obtain ⟨rfl, hR, hK, hT⟩ := hv
  have hts := atoms_spec (ws := mW m_FB_box) B.pre
  have hown : sx.vm.findClass (cnm (mOwn m_FB_box)) = some mx.cls := by rw [ok_FB_box.2]; exact findClass_of_methodNamed B.named
  have hlocks := B.notSynchronized
  have hbase : gB Γ ≤ sx.heap.size := by rw [hR.1]; omega
  have F : FixX Γ m_FB_box (d + 1) p (headSpec (mW m_FB_box) (mR m_FB_box (d + 1))).room sx mx ([Value.ref 32, .int (w z), .int (w q)].map (tr Γ)).toArray meth c := ⟨B.exec, B.bytes, B.returns, hml, hown, fun w hw => hts w (List.mem_cons_of_mem _ hw), hlocks, (name_of_methodNamed B.named B.method).1, hK, hbase, Nat.le_refl _, Nat.le_refl _⟩
  have hlv := lv_entry ([Value.ref 32, .int (w z), .int (w q)].map (tr Γ)) (n := mL m_FB_box) (by rw [lg_len]; exact (Nat.le_of_ble_eq_true rfl))
  have hL : LSr Γ _ (mL m_FB_box) [Value.ref 32, .int (w z), .int (w q)] := ⟨hlv.1, hlv.2.1, fun i hi => by
    have := lsOf_args Γ [Value.ref 32, .int (w z), .int (w q)] 0 i hi
    rw [Nat.zero_add] at this
    exact hlv.2.2 _ this⟩
  rw [lg_entry_eq]
  generalize ((lg_sl ([Value.ref 32, .int (w z), .int (w q)].map (tr Γ)) ++ List.replicate (mL m_FB_box - (lg_sl ([Value.ref 32, .int (w z), .int (w q)].map (tr Γ))).length) Slot.unset).toArray) = lsA at hL ⊢
  -- where it throws
  have out : ∀ (H1 : Heap) (locs1 : List Loc), Rep Γ μ H1 → va_S (gA Γ) sx.heap H1 locs1 → W p Γ.1 e (headSpec (mW m_FB_box) (mR m_FB_box (d + 1))).room sx mx ([Value.ref 32, .int (w z), .int (w q)].map (tr Γ)).toArray below meth c H1 locs1 0 0 (vx_MQ below (fun _ _ _ _ => False) (nsX Γ μ) ([Value.ref 32, .int (w z), .int (w q)].map (tr Γ)).toArray sx (mc m_FB_box) (ms m_FB_box) (gA Γ)) (F0 mx 21 lsA []) := fun H1 locs1 hR1 hS1 => by
    refine vx_throw0 (own := "FrostBox") (cls := nseN) (names := nsUp) (ik := 179) (ic := 181) (A := gA Γ) F.1 F.2.1 ht F.2.2.2.2.1 (by decide +kernel) (by decide +kernel) (F.2.2.2.2.2.1 _ ns_link.1) (F.2.2.2.2.2.1 _ ns_link.2.1) (ns_hat F.2.2.2.2.2.1 hT.2.2.2.2.2.2.2.2.2.2) ns_good (hT.2.2.2.2.2.2.2.2.2.1 0 (by decide)) (hT.2.2.2.2.2.2.2.2.2.1 1 (by decide)) hS1 (hL.1.trans F.2.2.2.1.symm) (by decide +kernel) (by decide +kernel) (by decide +kernel) (by decide +kernel) (fun x hx => (htab x hx).elim) (by show 2 + 3 < d + 1; omega) (by show 0 + (13 * (2 + 1) + 42) ≤ 40 * (d + 1); omega) (by show 0 + 1 ≤ 1; omega) (by show 0 + 6 ≤ 6; omega) hlocks (fun t hal hz ho => ?_) hS1.2.2 (by show 0 + 1 ≤ 1; omega) (by show 0 + 6 ≤ 6; omega)
    exact ⟨_, Nat.le_add_right _ _, ⟨rfl, hR1.grow hRF.1 hz ho⟩, Nat.le_trans hS1.1 hz, fun q9 h1 h2 => (ho q9 (Nat.lt_of_lt_of_le h1 hS1.1)).trans (hS1.2.1 q9 h1 h2)⟩
  refine lv_aload_n (i := 0) (x := gs Γ 32) F.1 F.2.1 (show decode (mC m_FB_box) 0 = .ok (.aload_n 0, 1) by decide +kernel) rfl (hL.at (v := .ref 32) rfl (by simp [jk])) ?_
  refine w_getr (i := 48) (k := 9) (ci := 10) (a' := 67) (st := []) F hR (by decide) (fun r hr => by cases hr; decide) rfl (by decide +kernel) (hRF.o rfl (by omega)) (hRF.r 32 9 67 rfl) ?_
  refine lv_iload_n (i := 1) (x := w z) F.1 F.2.1 (show decode (mC m_FB_box) 4 = .ok (.iload_n 1, 1) by decide +kernel) rfl (hL.at (v := .int (w z)) rfl (by simp [jk])) ?_
  refine w_invV (M' := m_Pi_hasPlace) (As := [.int (w z)]) (a := 67) (st := []) (i := 176) F hR hT va_S.rf hL lk_10_176 (by decide +kernel) rfl (dk_Pi_hasPlace d) (Nat.le_of_ble_eq_true rfl) (Or.inl ⟨6, hP.1.ob, rfl⟩) (C_hasPlace (by omega) hP z1 z2) (Nat.zero_le _) (Nat.zero_le _) ?_
  rintro _ μ' H' locs' ⟨r, rfl, rfl, hr⟩ hR' hT' hS'
  rcases hr with ⟨g1, g2, rfl⟩ | ⟨-, rfl⟩
  · refine lv_if_eq (tgt := 21) F.1 F.2.1 (show decode (mC m_FB_box) 8 = .ok (.ifCond .eq 13, 3) by decide +kernel) (by decide) (fun x => absurd x (by decide)) (fun _ => ?_)
    refine lv_iload_n (i := 2) (x := w q) F.1 F.2.1 (show decode (mC m_FB_box) 11 = .ok (.iload_n 2, 1) by decide +kernel) rfl (hL.at (v := .int (w q)) rfl (by simp [jk])) ?_
    refine lv_if_lt (tgt := 21) F.1 F.2.1 (show decode (mC m_FB_box) 12 = .ok (.ifCond .lt 9, 3) by decide +kernel) (by decide) (fun _ => out H' locs' hR' hS') (fun x => ?_)
    rw [← w0, w_lt (by omega) (by omega) (by omega) (by omega)] at x
    refine lv_iload_n (i := 2) (x := w q) F.1 F.2.1 (show decode (mC m_FB_box) 15 = .ok (.iload_n 2, 1) by decide +kernel) rfl (hL.at (v := .int (w q)) rfl (by simp [jk])) ?_
    refine lv_bipush (v := w 6) F.1 F.2.1 (show decode (mC m_FB_box) 16 = .ok (.bipush 6, 2) by decide +kernel) (by decide) ?_
    refine lv_icmp_le (tgt := 29) F.1 F.2.1 (show decode (mC m_FB_box) 18 = .ok (.if_icmp .le 11, 3) by decide +kernel) (by decide) (fun y => ?_) (fun _ => out H' locs' hR' hS')
    rw [w_le (by omega) (by omega) (by omega) (by omega)] at y
    exact absurd ⟨g1, g2, by omega, y⟩ hb
  · exact lv_if_eq (tgt := 21) F.1 F.2.1 (show decode (mC m_FB_box) 8 = .ok (.ifCond .eq 13, 3) by decide +kernel) (by decide) (fun _ => out H' locs' hR' hS') (fun x => absurd (by decide) x)
end BF
