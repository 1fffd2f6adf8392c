/-! STATICS, STRINGS, COPIES -/
section GT
variable {Γ : XG} {M : MM} {d : Nat} {b : Nat × Nat} {Q : Option Value → XM → Prop} {pc pc' : Nat} {ls st r : List Value} {μ : XM}
/-- a step that leaves heap and locals, with the statics at hand -/
theorem g_liftS {st' : List Value} (h : ∀ (p : Program) (e : Env) (R : Room) (s : State) (m : MethodId) (args : Array Value) (below : List Frame) (meth : Method) (c : Code) (Z : State → Prop) (H : Heap) (locs : List Loc) (cells slots : Nat) (lsA : Array Slot), FixX Γ M d p R s m args meth c → StX Γ μ s → va_S (gA Γ) s.heap H locs →
      W p Γ.1 e R s m args below meth c H locs cells slots Z (F0 m pc' lsA (st'.map (tr Γ))) → W p Γ.1 e R s m args below meth c H locs cells slots Z (F0 m pc lsA (st.map (tr Γ))))
    (k : G Γ M d b Q pc' ls st' μ) : G Γ M d b Q pc ls st μ := by
  intro p e R s m args below meth c Z F RX H locs cells slots lsA hR hT hS hL hc hs
  exact h p e R s m args below meth c Z H locs cells slots lsA F hT hS (k p e R s m args below meth c Z F RX H locs cells slots lsA hR hT hS hL hc hs)
theorem g_gstat {i k : Nat} (hk : k < 14) (hl : Cond.fieldLink (cnm (mOwn M)) i "FrostBox" (stN k).1 (stN k).2 ∈ lwG) (hd : decode (mC M) pc = .ok (.getstatic i, 3)) (kk : G Γ M d b Q (pc + 3) ls (.ref k :: st) μ) : G Γ M d b Q pc ls st μ :=
  g_liftS (fun _ _ _ _ _ _ _ _ _ _ _ _ _ _ _ F hT hS q => va_gets F.1 F.2.1 (hT.2.1 k hk) hS F.2.2.2.2.1 (F.2.2.2.2.2.1 _ hl) (fun _ h => h) hd q) kk
theorem g_gstatN {i k : Nat} (hk : k < 14) (hl : Cond.fieldLinkNest (cnm (mOwn M)) i "FrostBox" (stN k).1 (stN k).2 "FrostBox" ∈ lw_tbl) (hd : decode (mC M) pc = .ok (.getstatic i, 3)) (kk : G Γ M d b Q (pc + 3) ls (.ref k :: st) μ) : G Γ M d b Q pc ls st μ :=
  g_liftS (fun _ _ _ _ _ _ _ _ _ _ _ _ _ _ _ F hT hS q => va_getsN F.1 F.2.1 (hT.2.1 k hk) hS F.2.2.2.2.1 (va_Nw.use rfl (hT.2.2.2.2.2.2.2.1 _ hl rfl)) (fun _ h => h) hd q) kk
theorem g_compact {i : Nat} (hl : Cond.fieldLink (cnm (mOwn M)) i "java/lang/String" "COMPACT_STRINGS" "Z" ∈ lwG) (hd : decode (mC M) pc = .ok (.getstatic i, 3)) (kk : G Γ M d b Q (pc + 3) ls (.int 1 :: st) μ) : G Γ M d b Q pc ls st μ :=
  g_liftS (fun _ _ _ _ _ _ _ _ _ _ _ _ _ _ _ F hT hS q => va_gets F.1 F.2.1 hT.2.2.2.1 hS F.2.2.2.2.1 (F.2.2.2.2.2.1 _ hl) (fun _ h => h) hd q) kk
theorem g_fmt {i : Nat} (hl : Cond.fieldLink (cnm (mOwn M)) i "jdk/internal/util/Preconditions" "SIOOBE_FORMATTER" "Ljava/util/function/BiFunction;" ∈ lwG) (hd : decode (mC M) pc = .ok (.getstatic i, 3)) (kk : G Γ M d b Q (pc + 3) ls (Γ.2.2.2.2.2.1 :: st) μ) : G Γ M d b Q pc ls st μ :=
  g_liftS (fun _ _ _ _ _ _ _ _ _ _ _ _ _ _ _ F hT hS q => va_gets F.1 F.2.1 hT.2.2.2.2.1 hS F.2.2.2.2.1 (F.2.2.2.2.2.1 _ hl) (fun _ h => h) hd q) kk
theorem g_strCoder {i j : Nat} (hj : j < 6) (hl : Cond.fieldLink (cnm (mOwn M)) i "java/lang/String" "coder" "B" ∈ lwG) (hd : decode (mC M) pc = .ok (.getfield i, 3)) (kk : G Γ M d b Q (pc + 3) ls (.int 0 :: st) μ) : G Γ M d b Q pc ls (.ref (14 + j) :: st) μ :=
  g_liftS (fun _ _ _ _ _ _ _ _ _ _ _ _ _ _ _ F hT hS q => vk_getf F.1 F.2.1 (hT.2.2.1 j hj).2.1 hS F.2.2.2.2.1 (F.2.2.2.2.2.1 _ hl) (fun _ h => h) hd q) kk
theorem g_strValue {i j : Nat} (hj : j < 6) (hl : Cond.fieldLink (cnm (mOwn M)) i "java/lang/String" "value" "[B" ∈ lwG) (hd : decode (mC M) pc = .ok (.getfield i, 3)) (kk : G Γ M d b Q (pc + 3) ls (.ref (20 + j) :: st) μ) : G Γ M d b Q pc ls (.ref (14 + j) :: st) μ :=
  g_liftS (fun _ _ _ _ _ _ _ _ _ _ _ _ _ _ _ F hT hS q => vk_getf F.1 F.2.1 (hT.2.2.1 j hj).2.2 hS F.2.2.2.2.1 (F.2.2.2.2.2.1 _ hl) (fun _ h => h) hd q) kk
theorem g_ldcS {j : Nat} (hj : j < 6) (ho : cnm (mOwn M) = "FrostBoxModel") (hd : decode (mC M) pc = .ok (.ldc (strI j).1, 2)) (kk : G Γ M d b Q (pc + 2) ls (.ref (14 + j) :: st) μ) : G Γ M d b Q pc ls st μ :=
  g_liftS (fun _ _ _ _ _ _ _ _ _ _ _ _ _ _ _ F hT hS q => va_ldcS F.1 F.2.1 (ho ▸ F.2.2.2.2.1) (hT.2.2.2.2.2.1 j hj) hd q) kk
end GT
theorem xx_ldcwS {p : Program} {l : Launch} {e : Env} {R : Room} {s : State} {m : MethodId} {args : Array Value} {below : List Frame} {meth : Method} {c : Code} {T : State} {locs : List Loc} {cells slots : Nat}
    (X : Stand p l e R s m args below meth c T locs cells slots) (hexec : p.tables.exec = Jvm.exec) {own text : String} {index : Nat} {a : Addr} (hown : s.vm.findClass own = some m.cls)
    (hconst : (Cond.stringRef own index text).before args s = true) (hev : (Term.string own index).eval args s none [] s = some (.ref a)) {g : JFrame} (hg : g.method = m) (hdg : decode c.code g.pc = .ok (.ldc_w index, 3)) :
    ∀ target, Steps p.tables e below (T.setTop { g with pc := g.pc + 3, stack := .ref a :: g.stack }) target → Steps p.tables e below (T.setTop g) target := by
  obtain ⟨k, cf, i, a', hk, hcf, hcp, -, hr, hev'⟩ := Cond.stringRef_spec hown hconst
  cases hev.symm.trans hev'
  obtain ⟨k', hk', he⟩ := X.warmed.alike.2.2 _ _ hk
  have hr' : k'.resolved[index]? = some (some (.string a)) := by
    rcases X.warmed.entry hk hk' index with h | ⟨h, -⟩
    · rw [h]; exact hr
    · rw [hr] at h; cases h
  intro target hrest
  subst hg
  jvm_step X.here [hexec, hdg, ldc_w.wp_string (e := e) (s := T) (f := g) X.here.top hk' (by rw [he]; exact hcf) hcp hr']
  exact hrest
section GT2
variable {Γ : XG} {M : MM} {d : Nat} {b : Nat × Nat} {Q : Option Value → XM → Prop} {pc pc' : Nat} {ls st r : List Value} {μ : XM}
theorem g_ldcwS {j : Nat} (hj : j < 6) (ho : cnm (mOwn M) = "FrostBoxModel") (hd : decode (mC M) pc = .ok (.ldc_w (strI j).1, 3)) (kk : G Γ M d b Q (pc + 3) ls (.ref (14 + j) :: st) μ) : G Γ M d b Q pc ls st μ :=
  g_liftS (fun p e R s m args below meth c Z H locs cells slots lsA F hT hS q => by
    intro T hTh X
    obtain ⟨t, a1, b1⟩ := q T hTh X
    have hv := hT.2.2.2.2.2.1 j hj
    exact ⟨t, xx_ldcwS X F.1 (ho ▸ F.2.2.2.2.1) hv.1 hv.2 (g := F0 m pc lsA (st.map (tr Γ))) rfl (by rw [F.2.1]; exact hd) t a1, b1⟩) kk
/-- the script -/
theorem g_sld {i : Int32} (hd : decode (mC M) pc = .ok (.iaload, 1)) (hin : vp_in i Γ.2.2.2.2.2.2) (kk : G Γ M d b Q (pc + 1) ls (.int (xI μ 31 i.toNatClampNeg) :: st) μ) : G Γ M d b Q pc ls (.int i :: .ref 31 :: st) μ :=
  g_liftS (fun _ _ _ _ _ _ _ _ _ _ _ _ _ _ _ F hT hS q => va_ti F.1 F.2.1 hT.2.2.2.2.2.2.1 hS hin rfl hd q) kk
theorem g_slen (hd : decode (mC M) pc = .ok (.arraylength, 1)) (kk : G Γ M d b Q (pc + 1) ls (.int (w Γ.2.2.2.2.2.2) :: st) μ) : G Γ M d b Q pc ls (.ref 31 :: st) μ :=
  g_liftS (fun _ _ _ _ _ _ _ _ _ _ _ _ _ _ _ F hT hS q => va_tlen F.1 F.2.1 hT.2.2.2.2.2.2.1 hS rfl hd q) kk
theorem fvl_sC_ne {a c n q : Nat} (h : q ≠ c) (ty : FieldType) (j : Nat) : fvl Γ (sC μ a c n) q ty j = fvl Γ μ q ty j := by
  have e : xI (sC μ a c n) q j = xI μ q j := by show (if q = c ∧ j < n then _ else _) = _; rw [if_neg (fun z => h z.1)]; rfl
  unfold fvl
  rw [e]
  rfl
/-- System.arraycopy(a, 0, c, 0, n) over ints -/
theorem g_copy {i a c na nc n : Nat} (hl : Cond.methodLink (cnm (mOwn M)) i arraycopyName ∈ lwG) (hw : Cond.native arraycopyName ∈ lwG ∧ Cond.static arraycopyName ∈ lwG ∧ Cond.initialized "java/lang/System" ∈ lwG) (ha : ar μ a 0 na) (hc : ar μ c 0 nc) (hi : 32 ≤ c) (h1 : n ≤ na) (h2 : n ≤ nc) (hn : n < 2 ^ 31) (hd1 : 2 ≤ d) (hst : (st.map fun v => v.category).sum ≤ 20)
    (hd : decode (mC M) pc = .ok (.invokestatic i, 3)) (kk : G Γ M d b Q (pc + 3) ls st (sC μ a c n)) : G Γ M d b Q pc ls (.int (w n) :: .int (w 0) :: .ref c :: .int (w 0) :: .ref a :: st) μ := by
  intro p e R s m args below meth cd Z F RX H locs cells slots lsA hR hT hS hL hcc hss
  obtain ⟨cs, k1, k2, k3, k4, k5, k6⟩ := ha.known F hR hT hS
  have hc1 := hc.cell hi hR
  obtain ⟨hs6, k0, hk0, cm0, hkk0⟩ := k2
  obtain ⟨-, kd, hkd, cmd, hkkd⟩ := (F.2.2.2.2.2.2.2.2.1.2 0 _ (tysX_at (by decide))).1 nc (fun j => fvl Γ μ c (atyT 0) j)
  have hz : (w 0).toNatClampNeg = 0 := by decide
  have hzi : (w 0).toInt = 0 := by decide
  have hw1 : (w (n : Int)) = nI n := rfl
  have hwn : (w (n : Int)).toNatClampNeg = n := by rw [hw1]; exact nI_clamp hn
  have hwi : (w (n : Int)).toInt = (n : Int) := by rw [hw1]; exact nI_toInt hn
  intro T hTh X
  obtain ⟨vm', X', step⟩ := X.arraycopy F.1 F.2.2.2.2.1 (F.2.2.2.2.2.1 _ hl) (F.2.2.2.2.2.1 _ hw.1) (F.2.2.2.2.2.1 _ hw.2.1) (F.2.2.2.2.2.1 _ hw.2.2) (src := gs Γ a) (dst := gs Γ c) (cs := cs) (srcPos := w 0) (destPos := w 0) (n := w n) (by rw [hTh]; exact k1) (by rw [hTh]; exact hc1)
    hs6 (fun _ h => by cases h) k3 (fun h => by cases h) hk0 hkd hkk0 hkkd (by rfl) (by decide) (by decide) (by rw [hw1]; exact nI_pos hn)
    (by rw [hzi, hwi]; omega)
    (by rw [hzi, hwi, arrV_size]; omega)
    (fun vm₁ _ j hj => by
      rw [hwn] at hj
      have e : cs.slots.getD ((w 0).toNatClampNeg + j) .null = .int (xI μ a j) := by
        rw [hz, Nat.zero_add, Array.getD_eq_getD_getElem?, k6 j (by omega)]
        rfl
      exact ⟨by rw [e]; rfl, by rw [e]; exact trivial⟩)
    (g := F0 m pc lsA (.int (w n) :: .int (w 0) :: .ref (gs Γ c) :: .int (w 0) :: .ref (gs Γ a) :: st.map (tr Γ))) rfl (by rw [F.2.2.2.1]; exact hL.1) (rest := st.map (tr Γ)) rfl (by rw [F.2.1]; exact hd)
    (by have := F.2.2.2.2.2.2.2.2.2.2.1; omega)
    (by
      have h40 := F.2.2.2.2.2.2.2.2.2.2.2
      have e9 : ((st.map (tr Γ)).map fun v => v.category) = st.map fun v => v.category := by
        rw [List.map_map]; apply List.map_congr_left; intro v _; exact tr_cat Γ v
      have h9 : nativeFrameWords "java/lang/System" "arraycopy" 5 ≤ 40 := by decide
      rw [e9]
      show 2 * 0 + _ + _ ≤ _
      omega)
  have e1 : copied cs (arrV (Γ.2.2.1 0) nc (fun j => fvl Γ μ c (atyT 0) j)) (w 0) (w 0) (w n) = arrV (Γ.2.2.1 0) nc (fun j => .int (va_cpy (xI μ a) (xI μ c) 0 0 n j)) := by
    have q := va_copiedX (fun z => Value.int z) cs (Γ.2.2.1 0) (n0 := na) (n1 := nc) (sp := 0) (dp := 0) (n := n) (xI μ a) (xI μ c) k6 (by omega)
    rw [← q]
    show Cell.storeRun _ _ (Cell.stretch _ _ _) = _
    rw [hz, hwn]
    rfl
  rw [e1] at X' step
  have hlt : gs Γ c < H.size := (Array.getElem?_eq_some_iff.mp hc1).1
  have hcell : cOK Γ (sC μ a c n) c (H.setIfInBounds (gs Γ c) (arrV (Γ.2.2.1 0) nc (fun j => .int (va_cpy (xI μ a) (xI μ c) 0 0 n j)))) := by
    unfold cOK
    rw [hc.1]
    show _ = _
    rw [Array.getElem?_setIfInBounds_self_of_lt hlt]
    congr 2
    funext j
    show _ = Value.int (if c = c ∧ j < n then _ else _)
    congr 1
    by_cases hj : j < n
    · rw [if_pos ⟨rfl, hj⟩, pk_cpy_in (Nat.zero_le _) (by omega)]
      show μ.1 a (0 + (j - 0)) = μ.1 a j
      rw [Nat.sub_zero, Nat.zero_add]
    · rw [if_neg (fun z => hj z.2), pk_cpy_out (Or.inr (by omega))]
      rfl
  have oq : ∀ q : Nat, q ≠ gs Γ c → (H.setIfInBounds (gs Γ c) (arrV (Γ.2.2.1 0) nc (fun j => .int (va_cpy (xI μ a) (xI μ c) 0 0 n j))))[q]? = H[q]? := fun q hq => by simp [Array.getElem?_setIfInBounds, Ne.symm hq]
  have hTe : ((T.setVm vm').setCell (gs Γ c) (arrV (Γ.2.2.1 0) nc (fun j => .int (va_cpy (xI μ a) (xI μ c) 0 0 n j)))).heap = H.setIfInBounds (gs Γ c) (arrV (Γ.2.2.1 0) nc (fun j => .int (va_cpy (xI μ a) (xI μ c) 0 0 n j))) := by rw [← hTh]; rfl
  obtain ⟨t, a1, b1⟩ := kk p e R s m args below meth cd Z F RX _ _ cells slots lsA (hR.upd (H' := H.setIfInBounds (gs Γ c) (arrV (Γ.2.2.1 0) nc (fun j => .int (va_cpy (xI μ a) (xI μ c) 0 0 n j)))) (by simp) oq rfl hi (fun q h ty j => fvl_sC_ne h ty j) hcell) (hT.upd (fun q hq j => by
      have := fvl_sC_ne (Γ := Γ) (μ := μ) (a := a) (c := c) (n := n) (show q ≠ c by omega) .int j
      simpa [fvl] using this)) ⟨by simp; exact hS.1, fun q g1 g2 => by
      rw [oq q (fun z => g2 (by rw [z]; exact gs_A hi))]
      exact hS.2.1 q g1 g2, fun q hq => by
      rcases List.mem_append.mp hq with h | h
      · exact hS.2.2 q h
      · obtain ⟨z, -, hz⟩ := List.mem_map.mp h
        rw [← hz]
        exact gs_A hi⟩ hL hcc hss _ hTe X'
  exact ⟨t, step t a1, b1⟩
end GT2
