/-! A BOX: the class throws, the law's box catches -/
theorem shp_hi {k : Nat} (h : 574 ≤ k) : shp k = none := by
  unfold shp
  split
  · omega
  · omega
  · omega
  · omega
  · omega
  · rename_i e
    rw [List.getD_eq_getElem?_getD, List.getElem?_eq_none (by show 74 ≤ k % 100; omega)]
    rfl
  · rfl
/-- the heap has grown behind our cells -/
theorem Rep.grow {Γ : XG} {μ : XM} {H H' : Heap} (hR : Rep Γ μ H) (hN : 574 ≤ xN μ) (hz : H.size ≤ H'.size) (ho : ∀ q, q < H.size → H'[q]? = H[q]?) : Rep Γ (nN μ (xN μ + (H'.size - H.size))) H' := by
  obtain ⟨h1, h2, h3⟩ := hR
  refine ⟨by rw [xN_nN]; omega, by rw [xN_nN]; omega, fun k hk hk2 => ?_⟩
  rw [xN_nN] at hk2
  by_cases e : k < xN μ
  · have h := h3 k hk e
    have hg : H'[gs Γ k]? = H[gs Γ k]? := ho _ (by unfold gs; rw [if_neg (by omega), h1]; omega)
    unfold cOK at h ⊢
    split at h
    · trivial
    · obtain ⟨r, q1, q2⟩ := h
      exact ⟨r, q1, q2.kept hg⟩
    · rw [hg]; exact h
  · unfold cOK
    rw [shp_hi (by omega)]
    trivial
/-- where the class has thrown: the world is as it was, but for new cells behind it -/
def nsX (Γ : XG) (μ : XM) : String → State → State → Prop := vx_X (S := Nat) (fun k => xN μ ≤ k) (fun E k t => E = nseN ∧ Rep Γ (nN μ k) t.heap) (gA Γ)
section BW
variable {Γ : XG} {M M' : MM} {d d' : Nat} {Q Q' : Option Value → XM → Prop} {pc : Nat} {ls st As : List Value} {μ : XM} {i n a : Nat}
variable {p : Program} {e : Env} {R : Room} {s : State} {m : MethodId} {args : Array Value} {below : List Frame} {meth : Method} {c : Code} {Z : State → Prop} {H : Heap} {locs : List Loc} {cells slots : Nat} {lsA : Array Slot}
/-- a call, seen from one walk -/
theorem w_invV (F : FixX Γ M d p R s m args meth c) (hR : Rep Γ μ H) (hT : StX Γ μ s) (hS : va_S (gA Γ) s.heap H locs) (hLs : LSr Γ lsA (mL M) ls) (hL : LkV (mOwn M) i M' n) (hd : decode (mC M) pc = .ok (.invokevirtual i, 3)) (hn : As.length = n) (hd' : dOK d d' M') (hst : (st.map fun v => v.category).sum ≤ 8) (hr : Rcv M' μ a) (hcall : Call Γ M' d' (.ref a :: As) μ Q') (hc : cells + mc M' ≤ R.cells) (hs : slots + ms M' ≤ R.slots)
    (kk : ∀ (v : Option Value) (μ' : XM) (H' : Heap) (locs' : List Loc), Q' v μ' → Rep Γ μ' H' → StX Γ μ' s → va_S (gA Γ) s.heap H' locs' → W p Γ.1 e R s m args below meth c H' locs' (cells + mc M') (slots + ms M') Z (F0 m (pc + 3) lsA ((v.toList ++ st).map (tr Γ)))) : W p Γ.1 e R s m args below meth c H locs cells slots Z (F0 m pc lsA ((As.reverse ++ .ref a :: st).map (tr Γ))) := by
  have hrun : va_Run p Γ.1 e R s m args below meth c H locs cells slots (mc M') (ms M') (F0 m pc lsA ((As.reverse ++ .ref a :: st).map (tr Γ))) (st.map (tr Γ)) (QcX Γ μ Q' ((Value.ref a :: As).map (tr Γ)).toArray) (gA Γ) := by
    refine va_runV (As := As.map (tr Γ)) (b := gs Γ a) ⟨F.1, F.2.1, F.2.2.2.1, F.2.2.2.2.1, F.2.2.2.2.2.1⟩ hcall ⟨callB_x F hL.1 hL.2.1 hd', F.2.2.2.2.2.1 _ hL.2.2.1, F.2.2.2.2.2.1 _ hL.2.2.2⟩ ⟨PcX.blind _ _ _, hr.at F hR hT hS, pre_x F hR hT hS⟩ rfl (by rw [List.length_map]; exact hn) hLs.1 ?_ (lv_room (st_x hst)) hd ⟨hc, hs⟩
    show List.map (tr Γ) (As.reverse ++ .ref a :: st) = _
    rw [List.map_append, List.map_reverse]
    rfl
  intro T hTh X
  obtain ⟨v0, st₀, t, T', L, h0, X', hLf, e1, -, ⟨v, μ', ho, hq, hR', hX', hz, hk⟩, hgo⟩ := hrun T hTh X
  cases ho
  have hS' : va_S (gA Γ) s.heap t.heap (locs ++ L) := ⟨Nat.le_trans hS.1 (by rw [← h0]; exact hz), fun q h1 h2 => by
    rw [hk q (by rw [h0]; exact Nat.lt_of_lt_of_le h1 hS.1) h2, h0]
    exact hS.2.1 q h1 h2, fun q hq => by
    rcases List.mem_append.mp hq with h | h
    · exact hS.2.2 q h
    · exact hLf q h⟩
  have hstk : (v.map (tr Γ)).toList ++ st.map (tr Γ) = (v.toList ++ st).map (tr Γ) := by cases v <;> rfl
  obtain ⟨t2, a1, b1'⟩ := kk v μ' t.heap (locs ++ L) hq hR' (hX' s hT) hS' T' e1 X'
  refine ⟨t2, hgo t2 ?_, b1'⟩
  have e2 : ({ F0 m pc lsA ((As.reverse ++ .ref a :: st).map (tr Γ)) with pc := (F0 m pc lsA ((As.reverse ++ .ref a :: st).map (tr Γ))).pc + 3, stack := (v.map (tr Γ)).toList ++ st.map (tr Γ) } : JFrame) = F0 m (pc + 3) lsA ((v.toList ++ st).map (tr Γ)) := by
    rw [hstk]
  rw [e2]
  exact a1
/-- a getfield of a reference -/
theorem w_getr {k ci a' : Nat} (F : FixX Γ M d p R s m args meth c) (hR : Rep Γ μ H) (hl : (mOwn M, i, ci, k) ∈ flT) (hk : ∀ r, clT[ci]? = some r → k < r.2.2) (hy : kdT (tyT ci k) = 2) (hd : decode (mC M) pc = .ok (.getfield i, 3)) (ho : ob μ a ci) (hr : xR μ a k = some a')
    (kk : W p Γ.1 e R s m args below meth c H locs cells slots Z (F0 m (pc + 3) lsA ((.ref a' :: st).map (tr Γ)))) : W p Γ.1 e R s m args below meth c H locs cells slots Z (F0 m pc lsA ((.ref a :: st).map (tr Γ))) := by
  obtain ⟨r, hr0, cell, q1, q2, q3, q4⟩ := ho.cell hR
  have hlink := F.2.2.2.2.2.1 _ (flT_inG _ hl)
  rw [flW_at hr0] at hlink
  obtain ⟨hSl, hfc, kC, hkC, hkind⟩ := F.2.2.2.2.2.2.2.2.1.1 ci _ hr0
  obtain ⟨cf, kf, fi, f, hi, hsl⟩ := hSl k (hk r hr0)
  refine W.getf F.1 F.2.1 F.2.2.2.2.1 hlink hi (u_facts hfc hkC (u_lays F.2.2.2.2.2.1 (lyT_inG _ (List.mem_of_getElem? hr0)) (hk r hr0)) hi).1 q1 (by rw [q3]; exact fun h => by cases h) (v := tr Γ (.ref a')) ?_ rfl rfl hd kk
  rw [hsl, q4 k (hk r hr0)]
  show some (fvl Γ μ a (tyT ci k) k) = _
  rw [fvl_kR hy, hr]
  rfl
end BW
/-- the names between the exception and Throwable -/
def nsUp : List String := ["java/lang/RuntimeException", "java/lang/Exception"]
theorem ns_good : ∀ w ∈ Cond.classLink "FrostBox" 179 nseN :: Cond.initialized nseN :: vx_at0 "FrostBox" 181 nseN nsUp, vx_ot w = true := by decide +kernel
def nsP : List Nat := [131, 1159, 1168, 1170, 1173, 1175, 1160, 1161, 142, 143, 1162, 1167, 1171, 1187, 1149, 1188, 1151, 1189, 1153, 1163, 1165, 1155, 1177, 1178, 1179, 1180, 1180, 1181, 1182, 1183, 1183, 1184, 1185, 1160, 1176, 1138, 1146, 1147, 1148, 1150, 1152, 1154, 1158, 1157, 1156]
set_option maxRecDepth 100000 in
theorem ns_at : (vx_at0 "FrostBox" 181 nseN nsUp).filter goodWord = nsP.filterMap (fun i => lw_tbl[i]?) := by rfl
theorem ns_bad : ∀ w ∈ (vx_at0 "FrostBox" 181 nseN nsUp).filter (fun w => !goodWord w), w ∈ nxW := by decide +kernel
theorem ns_hat {args : Array Value} {s : State} (h1 : ∀ w ∈ lwG, w.before args s = true) (h2 : ∀ w ∈ nxW, va_Nw w s) : ∀ w ∈ vx_at0 "FrostBox" 181 nseN nsUp, w.before args s = true := by
  refine vx_hat (B := nxW) (fun w hw => ?_) ns_bad (fun w hw => va_Nw.use (nxW_tab hw) (h2 w hw))
  have hg : goodWord w = true := (List.mem_filter.mp hw).2
  rw [ns_at] at hw
  obtain ⟨i, -, hi⟩ := List.mem_filterMap.mp hw
  exact h1 w (lwG_in (List.mem_of_getElem? hi) hg)
set_option maxRecDepth 100000 in
theorem ns_link : Cond.classLink "FrostBox" 179 nseN ∈ lwG ∧ Cond.initialized nseN ∈ lwG ∧ Cond.classLink "FrostBoxLaw" 13 nseN ∈ lwG := ⟨lwG_in (List.mem_of_getElem? (i := 1137) rfl) rfl, lwG_in (List.mem_of_getElem? (i := 134) rfl) rfl, lwG_in (List.mem_of_getElem? (i := 1132) rfl) rfl⟩
