/-! CALLS -/
theorem StX.at {Γ : XG} {μ : XM} {s U : State} {H : Heap} {locs : List Loc} (h : StX Γ μ s) (hS : va_S (gA Γ) s.heap H locs) (hU : U.heap = H) (hW : s.WarmedH U.vm) : StX Γ μ U := by
  subst hU
  exact ⟨fun k t n hk hs => va_T.moved hW.alike ((h.1 k t n hk hs).kept hS.2.1), fun k hk => va_Z.moved hW.alike ((h.2.1 k hk).kept hS.2.1),
    fun i hi => ⟨va_O.moved hW.alike ((h.2.2.1 i hi).1.kept hS.2.1), va_OF.moved hW.alike ((h.2.2.1 i hi).2.1.kept hS.2.1), va_OF.moved hW.alike ((h.2.2.1 i hi).2.2.kept hS.2.1)⟩,
    va_Z.moved hW.alike (h.2.2.2.1.kept hS.2.1), va_Z.moved hW.alike (h.2.2.2.2.1.kept hS.2.1), fun i hi => vk_R.warm hW (h.2.2.2.2.2.1 i hi), va_T.moved hW.alike (h.2.2.2.2.2.2.1.kept hS.2.1), fun w hw hn => isNst_warm hn hW (h.2.2.2.2.2.2.2.1 w hw hn), fun ty ht => ov_moved hW.alike (h.2.2.2.2.2.2.2.2.1 ty ht), fun k hk => vx_Zq.moved hW.alike ((h.2.2.2.2.2.2.2.2.2.1 k hk).kept hS.2.1), fun w hw => nxW_warm hw hW (h.2.2.2.2.2.2.2.2.2.2 w hw)⟩
def LkC (M : MM) (n : Nat) : Prop := Cond.code (mY M) (mC M) (mL M) (mT M) ∈ lwG ∧ Cond.initialized (mY M).cls ∈ lwG ∧ ((mY M).cls ≠ "java/lang/invoke/MethodHandle" ∧ (mY M).cls ≠ "java/lang/invoke/VarHandle" ∧ (parseMethodDescriptor (mY M).desc).map (fun d => d.parameters.length) = some n)
section GI
variable {Γ : XG} {M M' : MM} {d d' b1 b2 : Nat} {b : Nat × Nat} {Q Q' : Option Value → XM → Prop} {pc pc' : Nat} {ls st r As : List Value} {μ : XM} {i n a : Nat}
theorem LkC.good (h : LkC M' n) : GoodIn lwG (mW M') := fun w hw => by
  rcases List.mem_cons.mp hw with e | hw
  · rw [e]; exact ⟨h.1, good_of_word (lwG_good h.1)⟩
  · exact ⟨hw, good_of_word (lwG_good hw)⟩
/-- behind a call -/
theorem g_after {p : Program} {e : Env} {R : Room} {s : State} {m : MethodId} {args : Array Value} {below : List Frame} {meth : Method} {c : Code} {Z : State → Prop} {H : Heap} {locs : List Loc} {cells slots : Nat} {lsA : Array Slot} {st0 : List Value} {aa : Array Value}
    (F : FixX Γ M d p R s m args meth c) (RX : RetX Γ M Q p e R s m args below meth c Z) (hT : StX Γ μ s) (hS : va_S (gA Γ) s.heap H locs) (hL : LSr Γ lsA (mL M) ls)
    (hc : cells + (b1 + mc M') ≤ R.cells) (hs : slots + (b2 + ms M') ≤ R.slots)
    (hRH : Rep Γ μ H) (hr : va_Run p Γ.1 e R s m args below meth c H locs cells slots (mc M') (ms M') (F0 m pc lsA st0) (st.map (tr Γ)) (QcX Γ μ Q' aa) (gA Γ))
    (kk : ∀ v μ', Q' v μ' → xN μ ≤ xN μ' → G Γ M d (b1, b2) Q (pc + 3) ls (v.toList ++ st) μ') : W p Γ.1 e R s m args below meth c H locs cells slots Z (F0 m pc lsA st0) := by
  intro T hTh X
  obtain ⟨v0, st₀, t, T', L, h0, X', hLf, e1, -, ⟨v, μ', ho, hq, hR', hX', hz, hk⟩, hgo⟩ := hr T hTh X
  cases ho
  have hS' : va_S (gA Γ) s.heap t.heap (locs ++ L) := ⟨Nat.le_trans hS.1 (by rw [← h0]; exact hz), fun q h1 h2 => by
    rw [hk q (by rw [h0]; exact Nat.lt_of_lt_of_le h1 hS.1) h2, h0]
    exact hS.2.1 q h1 h2, fun q hq => by
    rcases List.mem_append.mp hq with h | h
    · exact hS.2.2 q h
    · exact hLf q h⟩
  have hmn : xN μ ≤ xN μ' := by
    have a := hRH.1
    have b := hR'.1
    have c := hRH.2.1
    have d := hR'.2.1
    rw [h0] at hz
    omega
  have hstk : (v.map (tr Γ)).toList ++ st.map (tr Γ) = (v.toList ++ st).map (tr Γ) := by cases v <;> rfl
  obtain ⟨t2, a1, b1'⟩ := kk v μ' hq hmn p e R s m args below meth c Z F RX t.heap (locs ++ L) (cells + mc M') (slots + ms M') lsA hR' (hX' s hT) hS' hL (by show cells + mc M' + b1 ≤ _; omega) (by show slots + ms M' + b2 ≤ _; omega) T' e1 X'
  refine ⟨t2, hgo t2 ?_, b1'⟩
  rw [← hstk] at a1
  exact a1
theorem le_x {R : Room} {cells slots : Nat} (hc : cells + (b1 + mc M') ≤ R.cells) (hs : slots + (b2 + ms M') ≤ R.slots) : cells + mc M' ≤ R.cells ∧ slots + ms M' ≤ R.slots := ⟨by omega, by omega⟩
def LkV (own : Nat) (i : Nat) (M' : MM) (n : Nat) : Prop := LkC M' n ∧ Cond.methodLink (cnm own) i (mY M') ∈ lwG ∧ Cond.instanceMethod (mY M') ∈ lwG ∧ Cond.selects (mY M').cls (mY M') (mY M') ∈ lwG
def LkVN (own : Nat) (i : Nat) (M' : MM) (n : Nat) : Prop := LkC M' n ∧ (∃ host, Cond.methodLinkNest (cnm own) i (mY M') host ∈ lw_tbl) ∧ Cond.instanceMethod (mY M') ∈ lwG ∧ Cond.selects (mY M').cls (mY M') (mY M') ∈ lwG
def LkS (own : Nat) (i : Nat) (M' : MM) (n : Nat) : Prop := LkC M' n ∧ Cond.methodLink (cnm own) i (mY M') ∈ lwG ∧ Cond.static (mY M') ∈ lwG
def LkSN (own : Nat) (i : Nat) (M' : MM) (n : Nat) : Prop := LkC M' n ∧ (∃ host, Cond.methodLinkNest (cnm own) i (mY M') host ∈ lw_tbl) ∧ Cond.static (mY M') ∈ lwG
def LkI (own : Nat) (i : Nat) (M' : MM) (n : Nat) : Prop := LkC M' n ∧ Cond.methodLink (cnm own) i (mY M') ∈ lwG ∧ Cond.instanceMethod (mY M') ∈ lwG ∧ (mY M').name = "<init>" ∧ mT M' = none
def LkIN (own : Nat) (i : Nat) (M' : MM) (n : Nat) : Prop := LkC M' n ∧ (∃ host, Cond.methodLinkNest (cnm own) i (mY M') host ∈ lw_tbl) ∧ Cond.instanceMethod (mY M') ∈ lwG ∧ (mY M').name = "<init>" ∧ mT M' = none
/-- the room of a callee in the caller's -/
def dOK (d d' : Nat) (M' : MM) : Prop := d' + 1 ≤ d ∧ 19 + mL M' + 40 * d' ≤ 40 * d
theorem callB_x {p : Program} {R : Room} {s : State} {m : MethodId} {args : Array Value} {meth : Method} {c : Code} (F : FixX Γ M d p R s m args meth c) (hC : LkC M' n) (hl : Cond.methodLink (cnm (mOwn M)) i (mY M') ∈ lwG) (hd : dOK d d' M') : CallB R s args (cnm (mOwn M)) i (mY M') (mC M') (mL M') (mT M') (mW M') (mR M' d') (mc M') (ms M') n :=
  callB_of n F.2.2.2.2.2.1 hC.good rfl rfl rfl (F.2.2.2.2.2.1 _ hC.2.1) (F.2.2.2.2.2.1 _ hl) hC.2.2 ⟨Nat.le_trans hd.1 F.2.2.2.2.2.2.2.2.2.2.1, by have := F.2.2.2.2.2.2.2.2.2.2.2; have := hd.2; show 8 + (mL M' + 11) + 40 * d' ≤ _; omega⟩
theorem callN_x {p : Program} {R : Room} {s : State} {m : MethodId} {args : Array Value} {meth : Method} {c : Code} {host : String} (F : FixX Γ M d p R s m args meth c) (hT : StX Γ μ s) (hC : LkC M' n) (hl : Cond.methodLinkNest (cnm (mOwn M)) i (mY M') host ∈ lw_tbl) (hd : dOK d d' M') : va_CN R s args (cnm (mOwn M)) i (mY M') host (mC M') (mL M') (mT M') (mW M') (mR M' d') (mc M') (ms M') n :=
  va_cnB n F.2.2.2.2.2.1 hC.good rfl rfl rfl (hT.2.2.2.2.2.2.2.1 _ hl rfl) (F.2.2.2.2.2.1 _ hC.2.1) hC.2.2 ⟨Nat.le_trans hd.1 F.2.2.2.2.2.2.2.2.2.2.1, by have := F.2.2.2.2.2.2.2.2.2.2.2; have := hd.2; show 8 + (mL M' + 11) + 40 * d' ≤ _; omega⟩
theorem pre_x {p : Program} {R : Room} {s : State} {m : MethodId} {args : Array Value} {meth : Method} {c : Code} {H : Heap} {locs : List Loc} {av : List Value} (F : FixX Γ M d p R s m args meth c) (hR : Rep Γ μ H) (hT : StX Γ μ s) (hS : va_S (gA Γ) s.heap H locs) : ∀ U : State, U.heap = H → s.WarmedH U.vm → PcX Γ av μ (av.map (tr Γ)).toArray U :=
  fun U hU hW => ⟨rfl, by rw [hU]; exact hR, va_K.moved hW.alike F.2.2.2.2.2.2.2.2.1, hT.at hS hU hW⟩
theorem st_x (h : (st.map fun v => v.category).sum ≤ 8) : ((st.map (tr Γ)).map fun v => v.category).sum ≤ 8 := by
  have e9 : ((st.map (tr Γ)).map fun v => v.category) = st.map fun v => v.category := by
    rw [List.map_map]; apply List.map_congr_left; intro v _; exact tr_cat Γ v
  rw [e9]; exact h
/-- the receiver is one of the callee's class -/
def Rcv (M' : MM) (μ : XM) (a : Nat) : Prop := (∃ ci, ob μ a ci ∧ (clT[ci]?).map (fun r => r.1) = some (mY M').cls) ∨ ∃ j, j < 6 ∧ a = 14 + j ∧ (mY M').cls = "java/lang/String"
theorem Rcv.at {p : Program} {R : Room} {s : State} {m : MethodId} {args : Array Value} {meth : Method} {c : Code} {H : Heap} {locs : List Loc} (h : Rcv M' μ a) (F : FixX Γ M d p R s m args meth c) (hR : Rep Γ μ H) (hT : StX Γ μ s) (hS : va_S (gA Γ) s.heap H locs) : ∃ cellB : Cell, H[gs Γ a]? = some cellB ∧ cellB.vm.isStatics = false ∧ s.vm.findClass (mY M').cls = some cellB.cls := by
  rcases h with ⟨ci, ho, hc⟩ | ⟨j, hj, rfl, hc⟩
  · obtain ⟨r, hr, cell, q1, q2, q3, -⟩ := ho.cell hR
    rw [hr] at hc
    refine ⟨cell, q1, by rw [q3]; rfl, ?_⟩
    rw [← Option.some.inj hc, q2]
    exact (F.2.2.2.2.2.2.2.2.1.1 ci r hr).2.1
  · obtain ⟨cell, q1, q2, q3, q4⟩ := (hT.2.2.1 j hj).1
    exact ⟨cell, by rw [hS.2.1 _ (Array.getElem?_eq_some_iff.mp q1).1 q4]; exact q1, q2, by rw [hc]; exact q3⟩
theorem g_invV (hL : LkV (mOwn M) i M' n) (hd : decode (mC M) pc = .ok (.invokevirtual i, 3)) (hn : As.length = n) (hd' : dOK d d' M') (hst : (st.map fun v => v.category).sum ≤ 8) (hr : Rcv M' μ a) (hcall : Call Γ M' d' (.ref a :: As) μ Q')
    (kk : ∀ v μ', Q' v μ' → xN μ ≤ xN μ' → G Γ M d (b1, b2) Q (pc + 3) ls (v.toList ++ st) μ') : G Γ M d (b1 + mc M', b2 + ms M') Q pc ls (As.reverse ++ .ref a :: st) μ := by
  intro p e R s m args below meth c Z F RX H locs cells slots lsA hR hT hS hLs hc hs
  refine g_after F RX hT hS hLs hc hs (st := st) (aa := ((Value.ref a :: As).map (tr Γ)).toArray) hR ?_ kk
  refine va_runV (As := As.map (tr Γ)) (b := gs Γ a) ⟨F.1, F.2.1, F.2.2.2.1, F.2.2.2.2.1, F.2.2.2.2.2.1⟩ hcall ⟨callB_x F hL.1 hL.2.1 hd', F.2.2.2.2.2.1 _ hL.2.2.1, F.2.2.2.2.2.1 _ hL.2.2.2⟩ ⟨PcX.blind _ _ _, hr.at F hR hT hS, pre_x F hR hT hS⟩ rfl (by rw [List.length_map]; exact hn) hLs.1 ?_ (lv_room (st_x hst)) hd (le_x hc hs)
  show List.map (tr Γ) (As.reverse ++ .ref a :: st) = _
  rw [List.map_append, List.map_reverse]
  rfl
theorem g_invVN (hL : LkVN (mOwn M) i M' n) (hd : decode (mC M) pc = .ok (.invokevirtual i, 3)) (hn : As.length = n) (hd' : dOK d d' M') (hst : (st.map fun v => v.category).sum ≤ 8) (hr : Rcv M' μ a) (hcall : Call Γ M' d' (.ref a :: As) μ Q')
    (kk : ∀ v μ', Q' v μ' → xN μ ≤ xN μ' → G Γ M d (b1, b2) Q (pc + 3) ls (v.toList ++ st) μ') : G Γ M d (b1 + mc M', b2 + ms M') Q pc ls (As.reverse ++ .ref a :: st) μ := by
  intro p e R s m args below meth c Z F RX H locs cells slots lsA hR hT hS hLs hc hs
  obtain ⟨host, hL2⟩ := hL.2.1
  refine g_after F RX hT hS hLs hc hs (st := st) (aa := ((Value.ref a :: As).map (tr Γ)).toArray) hR ?_ kk
  refine va_runVN (As := As.map (tr Γ)) (b := gs Γ a) ⟨F.1, F.2.1, F.2.2.2.1, F.2.2.2.2.1, F.2.2.2.2.2.1⟩ hcall ⟨callN_x F hT hL.1 hL2 hd', F.2.2.2.2.2.1 _ hL.2.2.1, F.2.2.2.2.2.1 _ hL.2.2.2⟩ ⟨PcX.blind _ _ _, hr.at F hR hT hS, pre_x F hR hT hS⟩ rfl (by rw [List.length_map]; exact hn) hLs.1 ?_ (lv_room (st_x hst)) hd (le_x hc hs)
  show List.map (tr Γ) (As.reverse ++ .ref a :: st) = _
  rw [List.map_append, List.map_reverse]
  rfl
theorem g_invS (hL : LkS (mOwn M) i M' n) (hd : decode (mC M) pc = .ok (.invokestatic i, 3)) (hn : As.length = n) (hd' : dOK d d' M') (hst : (st.map fun v => v.category).sum ≤ 8) (hcall : Call Γ M' d' As μ Q')
    (kk : ∀ v μ', Q' v μ' → xN μ ≤ xN μ' → G Γ M d (b1, b2) Q (pc + 3) ls (v.toList ++ st) μ') : G Γ M d (b1 + mc M', b2 + ms M') Q pc ls (As.reverse ++ st) μ := by
  intro p e R s m args below meth c Z F RX H locs cells slots lsA hR hT hS hLs hc hs
  refine g_after F RX hT hS hLs hc hs (st := st) (aa := (As.map (tr Γ)).toArray) hR ?_ kk
  refine va_runS (As := As.map (tr Γ)) ⟨F.1, F.2.1, F.2.2.2.1, F.2.2.2.2.1, F.2.2.2.2.2.1⟩ hcall ⟨callB_x F hL.1 hL.2.1 hd', F.2.2.2.2.2.1 _ hL.2.2⟩ ⟨PcX.blind _ _ _, pre_x F hR hT hS⟩ rfl (by rw [List.length_map]; exact hn) hLs.1 ?_ (lv_room (st_x hst)) hd (le_x hc hs)
  show List.map (tr Γ) (As.reverse ++ st) = _
  rw [List.map_append, List.map_reverse]
theorem g_invSN (hL : LkSN (mOwn M) i M' n) (hd : decode (mC M) pc = .ok (.invokestatic i, 3)) (hn : As.length = n) (hd' : dOK d d' M') (hst : (st.map fun v => v.category).sum ≤ 8) (hcall : Call Γ M' d' As μ Q')
    (kk : ∀ v μ', Q' v μ' → xN μ ≤ xN μ' → G Γ M d (b1, b2) Q (pc + 3) ls (v.toList ++ st) μ') : G Γ M d (b1 + mc M', b2 + ms M') Q pc ls (As.reverse ++ st) μ := by
  intro p e R s m args below meth c Z F RX H locs cells slots lsA hR hT hS hLs hc hs
  obtain ⟨host, hL2⟩ := hL.2.1
  refine g_after F RX hT hS hLs hc hs (st := st) (aa := (As.map (tr Γ)).toArray) hR ?_ kk
  refine va_runSN (As := As.map (tr Γ)) ⟨F.1, F.2.1, F.2.2.2.1, F.2.2.2.2.1, F.2.2.2.2.2.1⟩ hcall ⟨callN_x F hT hL.1 hL2 hd', F.2.2.2.2.2.1 _ hL.2.2, trivial⟩ ⟨PcX.blind _ _ _, pre_x F hR hT hS⟩ rfl (by rw [List.length_map]; exact hn) hLs.1 ?_ (lv_room (st_x hst)) hd (le_x hc hs)
  show List.map (tr Γ) (As.reverse ++ st) = _
  rw [List.map_append, List.map_reverse]
theorem g_invI (hL : LkI (mOwn M) i M' n) (hd : decode (mC M) pc = .ok (.invokespecial i, 3)) (hn : As.length = n) (hd' : dOK d d' M') (hst : (st.map fun v => v.category).sum ≤ 8) (hcall : Call Γ M' d' (.ref a :: As) μ Q')
    (kk : ∀ v μ', Q' v μ' → xN μ ≤ xN μ' → G Γ M d (b1, b2) Q (pc + 3) ls (v.toList ++ st) μ') : G Γ M d (b1 + mc M', b2 + ms M') Q pc ls (As.reverse ++ .ref a :: st) μ := by
  intro p e R s m args below meth c Z F RX H locs cells slots lsA hR hT hS hLs hc hs
  refine g_after F RX hT hS hLs hc hs (st := st) (aa := ((Value.ref a :: As).map (tr Γ)).toArray) hR ?_ kk
  have hB := callB_x F hL.1 hL.2.1 hd'
  rw [hL.2.2.2.2] at hB
  refine va_runI (As := As.map (tr Γ)) (b := gs Γ a) ⟨F.1, F.2.1, F.2.2.2.1, F.2.2.2.2.1, F.2.2.2.2.2.1⟩ hcall ⟨hB, hL.2.2.2.1, F.2.2.2.2.2.1 _ hL.2.2.1⟩ ⟨PcX.blind _ _ _, pre_x F hR hT hS⟩ rfl (by rw [List.length_map]; exact hn) hLs.1 ?_ (lv_room (st_x hst)) hd (le_x hc hs)
  show List.map (tr Γ) (As.reverse ++ .ref a :: st) = _
  rw [List.map_append, List.map_reverse]
  rfl
theorem g_invIN (hL : LkIN (mOwn M) i M' n) (hd : decode (mC M) pc = .ok (.invokespecial i, 3)) (hn : As.length = n) (hd' : dOK d d' M') (hst : (st.map fun v => v.category).sum ≤ 8) (hcall : Call Γ M' d' (.ref a :: As) μ Q')
    (kk : ∀ v μ', Q' v μ' → xN μ ≤ xN μ' → G Γ M d (b1, b2) Q (pc + 3) ls (v.toList ++ st) μ') : G Γ M d (b1 + mc M', b2 + ms M') Q pc ls (As.reverse ++ .ref a :: st) μ := by
  intro p e R s m args below meth c Z F RX H locs cells slots lsA hR hT hS hLs hc hs
  obtain ⟨host, hL2⟩ := hL.2.1
  refine g_after F RX hT hS hLs hc hs (st := st) (aa := ((Value.ref a :: As).map (tr Γ)).toArray) hR ?_ kk
  have hB := callN_x F hT hL.1 hL2 hd'
  rw [hL.2.2.2.2] at hB
  refine va_runIN (As := As.map (tr Γ)) (b := gs Γ a) ⟨F.1, F.2.1, F.2.2.2.1, F.2.2.2.2.1, F.2.2.2.2.2.1⟩ hcall ⟨hB, hL.2.2.2.1, F.2.2.2.2.2.1 _ hL.2.2.1⟩ ⟨PcX.blind _ _ _, pre_x F hR hT hS⟩ rfl (by rw [List.length_map]; exact hn) hLs.1 ?_ (lv_room (st_x hst)) hd (le_x hc hs)
  show List.map (tr Γ) (As.reverse ++ .ref a :: st) = _
  rw [List.map_append, List.map_reverse]
  rfl
end GI
