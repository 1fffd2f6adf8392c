/-! G AND ITS STEPS -/
def FixX (Γ : XG) (M : MM) (d : Nat) (p : Program) (R : Room) (s : State) (m : MethodId) (args : Array Value) (meth : Method) (c : Code) : Prop :=
  p.tables.exec = Jvm.exec ∧ c.code = mC M ∧ meth.sig.returnType = mT M ∧ c.maxLocals = mL M ∧ s.vm.findClass (cnm (mOwn M)) = some m.cls ∧ (∀ w ∈ lwG, w.before args s = true) ∧ meth.locks = false ∧ meth.name = (mY M).name ∧ va_K Γ.2.1 clT (tysX Γ) s ∧ gB Γ ≤ s.heap.size ∧ d ≤ R.frames ∧ 40 * d ≤ R.locals
/-- an instruction that returns, what it returns -/
def rOK (ret : Option FieldType) (ins : Instr) (v : Option Value) : Prop := match v with
  | none => ins = .return_ ∧ ret = none
  | some (.int x) => ins = .ireturn ∧ ∃ ty, ret = some ty ∧ narrow ty (.int x) = .int x
  | some (.long _) => ins = .lreturn ∧ ret = some .long
  | _ => False
def RetX (Γ : XG) (M : MM) (Q : Option Value → XM → Prop) (p : Program) (e : Env) (R : Room) (s : State) (m : MethodId) (args : Array Value) (below : List Frame) (meth : Method) (c : Code) (Z : State → Prop) : Prop :=
  ∀ (v : Option Value) (μ' : XM) (H : Heap) (locs : List Loc) (cells slots : Nat) (lsA : Array Slot) (pc : Nat) (ins : Instr), Q v μ' → Rep Γ μ' H → StX Γ μ' s → va_S (gA Γ) s.heap H locs → cells ≤ R.cells → slots ≤ R.slots → decode (mC M) pc = .ok (ins, 1) → rOK (mT M) ins v →
    W p Γ.1 e R s m args below meth c H locs cells slots Z (F0 m pc lsA ((v.map (tr Γ)).toList))
/-- the walk of M's body stands at pc with these locals and this stack over the heap μ, b cells and slots may yet be made: it comes to an end with Q -/
def G (Γ : XG) (M : MM) (d : Nat) (b : Nat × Nat) (Q : Option Value → XM → Prop) (pc : Nat) (ls st : List Value) (μ : XM) : Prop :=
  ∀ (p : Program) (e : Env) (R : Room) (s : State) (m : MethodId) (args : Array Value) (below : List Frame) (meth : Method) (c : Code) (Z : State → Prop), FixX Γ M d p R s m args meth c → RetX Γ M Q p e R s m args below meth c Z →
    ∀ (H : Heap) (locs : List Loc) (cells slots : Nat) (lsA : Array Slot), Rep Γ μ H → StX Γ μ s → va_S (gA Γ) s.heap H locs → LSr Γ lsA (mL M) ls → cells + b.1 ≤ R.cells → slots + b.2 ≤ R.slots →
      W p Γ.1 e R s m args below meth c H locs cells slots Z (F0 m pc lsA (st.map (tr Γ)))
section GS
variable {Γ : XG} {M : MM} {d : Nat} {b : Nat × Nat} {Q : Option Value → XM → Prop} {pc pc' : Nat} {ls st r : List Value} {μ : XM}
/-- a step that leaves heap and locals -/
theorem g_lift {st' : List Value} (h : ∀ (p : Program) (e : Env) (R : Room) (s : State) (m : MethodId) (args : Array Value) (below : List Frame) (meth : Method) (c : Code) (Z : State → Prop) (H : Heap) (locs : List Loc) (cells slots : Nat) (lsA : Array Slot), FixX Γ M d p R s m args meth c → LSr Γ lsA (mL M) ls →
      W p Γ.1 e R s m args below meth c H locs cells slots Z (F0 m pc' lsA (st'.map (tr Γ))) → W p Γ.1 e R s m args below meth c H locs cells slots Z (F0 m pc lsA (st.map (tr Γ))))
    (k : G Γ M d b Q pc' ls st' μ) : G Γ M d b Q pc ls st μ := by
  intro p e R s m args below meth c Z F RX H locs cells slots lsA hR hT hS hL hc hs
  exact h p e R s m args below meth c Z H locs cells slots lsA F hL (k p e R s m args below meth c Z F RX H locs cells slots lsA hR hT hS hL hc hs)
theorem g_iconst {n : Int} (hd : decode (mC M) pc = .ok (.iconst n, 1)) (k : G Γ M d b Q (pc + 1) ls (.int (w n) :: st) μ) : G Γ M d b Q pc ls st μ :=
  g_lift (fun _ _ _ _ _ _ _ _ _ _ _ _ _ _ _ F _ k => lv_iconst F.1 F.2.1 hd rfl k) k
theorem g_bipush {n : Int} (hv : (Int8.ofInt n).toInt32 = w n) (hd : decode (mC M) pc = .ok (.bipush n, 2)) (k : G Γ M d b Q (pc + 2) ls (.int (w n) :: st) μ) : G Γ M d b Q pc ls st μ :=
  g_lift (fun _ _ _ _ _ _ _ _ _ _ _ _ _ _ _ F _ k => lv_bipush F.1 F.2.1 hd hv k) k
theorem g_sipush {n : Int} (hv : (Int16.ofInt n).toInt32 = w n) (hd : decode (mC M) pc = .ok (.sipush n, 3)) (k : G Γ M d b Q (pc + 3) ls (.int (w n) :: st) μ) : G Γ M d b Q pc ls st μ :=
  g_lift (fun _ _ _ _ _ _ _ _ _ _ _ _ _ _ _ F _ k => lv_sipush F.1 F.2.1 hd hv k) k
theorem g_lconst {n : Fin 2} (hd : decode (mC M) pc = .ok (.lconst n, 1)) (k : G Γ M d b Q (pc + 1) ls (.long (wl (n : Nat)) :: st) μ) : G Γ M d b Q pc ls st μ :=
  g_lift (fun _ _ _ _ _ _ _ _ _ _ _ _ _ _ _ F _ k => lv_lconst F.1 F.2.1 hd rfl k) k
theorem g_ldc {i : Nat} {z : Int} (hw : Cond.constant (cnm (mOwn M)) i (w z) ∈ lwG) (hd : decode (mC M) pc = .ok (.ldc i, 2)) (k : G Γ M d b Q (pc + 2) ls (.int (w z) :: st) μ) : G Γ M d b Q pc ls st μ :=
  g_lift (fun _ _ _ _ _ _ _ _ _ _ _ _ _ _ _ F _ k => lv_ldc F.1 F.2.1 F.2.2.2.2.1 (F.2.2.2.2.2.1 _ hw) hd k) k
theorem g_ldcw {i : Nat} {z : Int} (hw : Cond.constant (cnm (mOwn M)) i (w z) ∈ lwG) (hd : decode (mC M) pc = .ok (.ldc_w i, 3)) (k : G Γ M d b Q (pc + 3) ls (.int (w z) :: st) μ) : G Γ M d b Q pc ls st μ :=
  g_lift (fun _ _ _ _ _ _ _ _ _ _ _ _ _ _ _ F _ k => lv_ldcw F.1 F.2.1 F.2.2.2.2.1 (F.2.2.2.2.2.1 _ hw) hd k) k
theorem g_ldc2 {i : Nat} {z : Int} (hw : Cond.constantLong (cnm (mOwn M)) i (wl z) ∈ lwG) (hd : decode (mC M) pc = .ok (.ldc2_w i, 3)) (k : G Γ M d b Q (pc + 3) ls (.long (wl z) :: st) μ) : G Γ M d b Q pc ls st μ :=
  g_lift (fun _ _ _ _ _ _ _ _ _ _ _ _ _ _ _ F _ k => lv_ldc2 F.1 F.2.1 F.2.2.2.2.1 (F.2.2.2.2.2.1 _ hw) hd k) k
theorem LSr.at {lsA : Array Slot} {n i : Nat} {v : Value} (h : LSr Γ lsA n ls) (hv : nth ls i = v) (hj : v ≠ jk) : lsA[i]? = some (.val (tr Γ v)) := by
  rw [← hv]; exact h.2.2 i (by rw [hv]; exact hj)
theorem g_iload {i : Nat} {x : Int32} (hv : nth ls i = .int x) (hd : decode (mC M) pc = .ok (.iload i, 2)) (k : G Γ M d b Q (pc + 2) ls (.int x :: st) μ) : G Γ M d b Q pc ls st μ :=
  g_lift (fun _ _ _ _ _ _ _ _ _ _ _ _ _ _ _ F L k => lv_iload F.1 F.2.1 hd (L.at hv (by simp [jk])) k) k
theorem g_iload_n {i : Fin 4} {x : Int32} (hv : nth ls i = .int x) (hd : decode (mC M) pc = .ok (.iload_n i, 1)) (k : G Γ M d b Q (pc + 1) ls (.int x :: st) μ) : G Γ M d b Q pc ls st μ :=
  g_lift (fun _ _ _ _ _ _ _ _ _ _ _ _ _ _ _ F L k => lv_iload_n F.1 F.2.1 hd rfl (L.at hv (by simp [jk])) k) k
theorem g_lload {i : Nat} {x : Int64} (hv : nth ls i = .long x) (hd : decode (mC M) pc = .ok (.lload i, 2)) (k : G Γ M d b Q (pc + 2) ls (.long x :: st) μ) : G Γ M d b Q pc ls st μ :=
  g_lift (fun _ _ _ _ _ _ _ _ _ _ _ _ _ _ _ F L k => lv_lload F.1 F.2.1 hd (L.at hv (by simp [jk])) k) k
theorem g_lload_n {i : Fin 4} {x : Int64} (hv : nth ls i = .long x) (hd : decode (mC M) pc = .ok (.lload_n i, 1)) (k : G Γ M d b Q (pc + 1) ls (.long x :: st) μ) : G Γ M d b Q pc ls st μ :=
  g_lift (fun _ _ _ _ _ _ _ _ _ _ _ _ _ _ _ F L k => lv_lload_n F.1 F.2.1 hd rfl (L.at hv (by simp [jk])) k) k
theorem g_aload {i x : Nat} (hv : nth ls i = .ref x) (hd : decode (mC M) pc = .ok (.aload i, 2)) (k : G Γ M d b Q (pc + 2) ls (.ref x :: st) μ) : G Γ M d b Q pc ls st μ :=
  g_lift (fun _ _ _ _ _ _ _ _ _ _ _ _ _ _ _ F L k => lv_aload F.1 F.2.1 hd (L.at hv (by simp [jk])) k) k
theorem g_aload_n {i : Fin 4} {x : Nat} (hv : nth ls i = .ref x) (hd : decode (mC M) pc = .ok (.aload_n i, 1)) (k : G Γ M d b Q (pc + 1) ls (.ref x :: st) μ) : G Γ M d b Q pc ls st μ :=
  g_lift (fun _ _ _ _ _ _ _ _ _ _ _ _ _ _ _ F L k => lv_aload_n F.1 F.2.1 hd rfl (L.at hv (by simp [jk])) k) k
/-- a step that leaves the heap and stores a local -/
theorem g_store {st' ls' : List Value} (h : ∀ (p : Program) (e : Env) (R : Room) (s : State) (m : MethodId) (args : Array Value) (below : List Frame) (meth : Method) (c : Code) (Z : State → Prop) (H : Heap) (locs : List Loc) (cells slots : Nat) (lsA : Array Slot), FixX Γ M d p R s m args meth c → LSr Γ lsA (mL M) ls →
      (∀ lsB, LSr Γ lsB (mL M) ls' → W p Γ.1 e R s m args below meth c H locs cells slots Z (F0 m pc' lsB (st'.map (tr Γ)))) → W p Γ.1 e R s m args below meth c H locs cells slots Z (F0 m pc lsA (st.map (tr Γ))))
    (k : G Γ M d b Q pc' ls' st' μ) : G Γ M d b Q pc ls st μ := by
  intro p e R s m args below meth c Z F RX H locs cells slots lsA hR hT hS hL hc hs
  exact h p e R s m args below meth c Z H locs cells slots lsA F hL (fun lsB hB => k p e R s m args below meth c Z F RX H locs cells slots lsB hR hT hS hB hc hs)
theorem g_istore {i : Nat} {x : Int32} (hn : i < mL M) (hd : decode (mC M) pc = .ok (.istore i, 2)) (k : G Γ M d b Q (pc + 2) (stW false ls i (.int x)) st μ) : G Γ M d b Q pc ls (.int x :: st) μ :=
  g_store (fun _ _ _ _ _ _ _ _ _ _ _ _ _ _ _ F L k => lv_istore F.1 F.2.1 hd L.lv hn rfl (fun lsB hB => k lsB (LSr.st (v := .int x) L hB))) k
theorem g_istore_n {i : Fin 4} {x : Int32} (hn : (i : Nat) < mL M) (hd : decode (mC M) pc = .ok (.istore_n i, 1)) (k : G Γ M d b Q (pc + 1) (stW false ls i (.int x)) st μ) : G Γ M d b Q pc ls (.int x :: st) μ :=
  g_store (fun _ _ _ _ _ _ _ _ _ _ _ _ _ _ _ F L k => lv_istore_n F.1 F.2.1 hd rfl L.lv hn rfl (fun lsB hB => k lsB (LSr.st (v := .int x) L hB))) k
theorem g_lstore {i : Nat} {x : Int64} (hn : i + 1 < mL M) (hd : decode (mC M) pc = .ok (.lstore i, 2)) (k : G Γ M d b Q (pc + 2) (stW true ls i (.long x)) st μ) : G Γ M d b Q pc ls (.long x :: st) μ :=
  g_store (fun _ _ _ _ _ _ _ _ _ _ _ _ _ _ _ F L k => lv_lstore F.1 F.2.1 hd L.lv hn rfl (fun lsB hB => k lsB (LSr.st2 (v := .long x) L hB))) k
theorem g_lstore_n {i : Fin 4} {x : Int64} (hn : (i : Nat) + 1 < mL M) (hd : decode (mC M) pc = .ok (.lstore_n i, 1)) (k : G Γ M d b Q (pc + 1) (stW true ls i (.long x)) st μ) : G Γ M d b Q pc ls (.long x :: st) μ :=
  g_store (fun _ _ _ _ _ _ _ _ _ _ _ _ _ _ _ F L k => lv_lstore_n F.1 F.2.1 hd rfl L.lv hn rfl (fun lsB hB => k lsB (LSr.st2 (v := .long x) L hB))) k
theorem g_astore {i x : Nat} (hn : i < mL M) (hd : decode (mC M) pc = .ok (.astore i, 2)) (k : G Γ M d b Q (pc + 2) (stW false ls i (.ref x)) st μ) : G Γ M d b Q pc ls (.ref x :: st) μ :=
  g_store (fun _ _ _ _ _ _ _ _ _ _ _ _ _ _ _ F L k => lv_astore F.1 F.2.1 hd L.lv hn rfl (fun lsB hB => k lsB (LSr.st (v := .ref x) L hB))) k
theorem g_astore_n {i : Fin 4} {x : Nat} (hn : (i : Nat) < mL M) (hd : decode (mC M) pc = .ok (.astore_n i, 1)) (k : G Γ M d b Q (pc + 1) (stW false ls i (.ref x)) st μ) : G Γ M d b Q pc ls (.ref x :: st) μ :=
  g_store (fun _ _ _ _ _ _ _ _ _ _ _ _ _ _ _ F L k => lv_astore_n F.1 F.2.1 hd rfl L.lv hn rfl (fun lsB hB => k lsB (LSr.st (v := .ref x) L hB))) k
theorem g_iinc {i : Nat} {n : Int} {x : Int32} (hn : i < mL M) (hv : nth ls i = .int x) (hd : decode (mC M) pc = .ok (.iinc i n, 3)) (k : G Γ M d b Q (pc + 3) (stW false ls i (.int (x + w n))) st μ) : G Γ M d b Q pc ls st μ :=
  g_store (fun _ _ _ _ _ _ _ _ _ _ _ _ _ _ _ F L k => by
    have hm : (i, Value.int x) ∈ lvOf Γ (mL M) ls := lvOf_mem.mpr ⟨hn, by rw [hv]; simp [jk], by rw [hv]; rfl⟩
    obtain ⟨j, hj⟩ := List.getElem?_of_mem hm
    exact lv_iinc F.1 F.2.1 hd L.lv hj rfl hn rfl (fun lsB hB => k lsB (LSr.st (v := .int (x + w n)) L hB))) k
theorem g_iadd {x y : Int32} (hd : decode (mC M) pc = .ok (.iadd, 1)) (k : G Γ M d b Q (pc + 1) ls (.int (x + y) :: st) μ) : G Γ M d b Q pc ls (.int y :: .int x :: st) μ :=
  g_lift (fun _ _ _ _ _ _ _ _ _ _ _ _ _ _ _ F _ k => lv_iadd F.1 F.2.1 hd  k) k
theorem g_isub {x y : Int32} (hd : decode (mC M) pc = .ok (.isub, 1)) (k : G Γ M d b Q (pc + 1) ls (.int (x - y) :: st) μ) : G Γ M d b Q pc ls (.int y :: .int x :: st) μ :=
  g_lift (fun _ _ _ _ _ _ _ _ _ _ _ _ _ _ _ F _ k => lv_isub F.1 F.2.1 hd  k) k
theorem g_imul {x y : Int32} (hd : decode (mC M) pc = .ok (.imul, 1)) (k : G Γ M d b Q (pc + 1) ls (.int (x * y) :: st) μ) : G Γ M d b Q pc ls (.int y :: .int x :: st) μ :=
  g_lift (fun _ _ _ _ _ _ _ _ _ _ _ _ _ _ _ F _ k => lv_imul F.1 F.2.1 hd  k) k
theorem g_iand {x y : Int32} (hd : decode (mC M) pc = .ok (.iand, 1)) (k : G Γ M d b Q (pc + 1) ls (.int (x &&& y) :: st) μ) : G Γ M d b Q pc ls (.int y :: .int x :: st) μ :=
  g_lift (fun _ _ _ _ _ _ _ _ _ _ _ _ _ _ _ F _ k => lv_iand F.1 F.2.1 hd  k) k
theorem g_ior {x y : Int32} (hd : decode (mC M) pc = .ok (.ior, 1)) (k : G Γ M d b Q (pc + 1) ls (.int (x ||| y) :: st) μ) : G Γ M d b Q pc ls (.int y :: .int x :: st) μ :=
  g_lift (fun _ _ _ _ _ _ _ _ _ _ _ _ _ _ _ F _ k => lv_ior F.1 F.2.1 hd  k) k
theorem g_ixor {x y : Int32} (hd : decode (mC M) pc = .ok (.ixor, 1)) (k : G Γ M d b Q (pc + 1) ls (.int (x ^^^ y) :: st) μ) : G Γ M d b Q pc ls (.int y :: .int x :: st) μ :=
  g_lift (fun _ _ _ _ _ _ _ _ _ _ _ _ _ _ _ F _ k => lv_ixor F.1 F.2.1 hd  k) k
theorem g_ishl {x y : Int32} (hd : decode (mC M) pc = .ok (.ishl, 1)) (k : G Γ M d b Q (pc + 1) ls (.int (x <<< (y &&& 31)) :: st) μ) : G Γ M d b Q pc ls (.int y :: .int x :: st) μ :=
  g_lift (fun _ _ _ _ _ _ _ _ _ _ _ _ _ _ _ F _ k => lv_ishl F.1 F.2.1 hd  k) k
theorem g_ishr {x y : Int32} (hd : decode (mC M) pc = .ok (.ishr, 1)) (k : G Γ M d b Q (pc + 1) ls (.int (x >>> (y &&& 31)) :: st) μ) : G Γ M d b Q pc ls (.int y :: .int x :: st) μ :=
  g_lift (fun _ _ _ _ _ _ _ _ _ _ _ _ _ _ _ F _ k => lv_ishr F.1 F.2.1 hd  k) k
theorem g_iushr {x y : Int32} (hd : decode (mC M) pc = .ok (.iushr, 1)) (k : G Γ M d b Q (pc + 1) ls (.int ((x.toUInt32 >>> (y.toUInt32 &&& Int32.toUInt32 31)).toInt32) :: st) μ) : G Γ M d b Q pc ls (.int y :: .int x :: st) μ :=
  g_lift (fun _ _ _ _ _ _ _ _ _ _ _ _ _ _ _ F _ k => lv_iushr F.1 F.2.1 hd rfl k) k
theorem g_idiv {x y : Int32} (hne : ¬ y = 0) (hd : decode (mC M) pc = .ok (.idiv, 1)) (k : G Γ M d b Q (pc + 1) ls (.int (x / y) :: st) μ) : G Γ M d b Q pc ls (.int y :: .int x :: st) μ :=
  g_lift (fun _ _ _ _ _ _ _ _ _ _ _ _ _ _ _ F _ k => lv_idiv F.1 F.2.1 hd hne k) k
theorem g_irem {x y : Int32} (hne : ¬ y = 0) (hd : decode (mC M) pc = .ok (.irem, 1)) (k : G Γ M d b Q (pc + 1) ls (.int (x - x / y * y) :: st) μ) : G Γ M d b Q pc ls (.int y :: .int x :: st) μ :=
  g_lift (fun _ _ _ _ _ _ _ _ _ _ _ _ _ _ _ F _ k => lv_irem F.1 F.2.1 hd hne k) k
theorem g_ladd {x y : Int64} (hd : decode (mC M) pc = .ok (.ladd, 1)) (k : G Γ M d b Q (pc + 1) ls (.long (x + y) :: st) μ) : G Γ M d b Q pc ls (.long y :: .long x :: st) μ :=
  g_lift (fun _ _ _ _ _ _ _ _ _ _ _ _ _ _ _ F _ k => lv_ladd F.1 F.2.1 hd k) k
theorem g_lsub {x y : Int64} (hd : decode (mC M) pc = .ok (.lsub, 1)) (k : G Γ M d b Q (pc + 1) ls (.long (x - y) :: st) μ) : G Γ M d b Q pc ls (.long y :: .long x :: st) μ :=
  g_lift (fun _ _ _ _ _ _ _ _ _ _ _ _ _ _ _ F _ k => lv_lsub F.1 F.2.1 hd k) k
theorem g_lmul {x y : Int64} (hd : decode (mC M) pc = .ok (.lmul, 1)) (k : G Γ M d b Q (pc + 1) ls (.long (x * y) :: st) μ) : G Γ M d b Q pc ls (.long y :: .long x :: st) μ :=
  g_lift (fun _ _ _ _ _ _ _ _ _ _ _ _ _ _ _ F _ k => lv_lmul F.1 F.2.1 hd k) k
theorem g_land {x y : Int64} (hd : decode (mC M) pc = .ok (.land, 1)) (k : G Γ M d b Q (pc + 1) ls (.long (x &&& y) :: st) μ) : G Γ M d b Q pc ls (.long y :: .long x :: st) μ :=
  g_lift (fun _ _ _ _ _ _ _ _ _ _ _ _ _ _ _ F _ k => lv_land F.1 F.2.1 hd k) k
theorem g_lor {x y : Int64} (hd : decode (mC M) pc = .ok (.lor, 1)) (k : G Γ M d b Q (pc + 1) ls (.long (x ||| y) :: st) μ) : G Γ M d b Q pc ls (.long y :: .long x :: st) μ :=
  g_lift (fun _ _ _ _ _ _ _ _ _ _ _ _ _ _ _ F _ k => lv_lor F.1 F.2.1 hd k) k
theorem g_ldiv {x y : Int64} (hne : ¬ y = 0) (hd : decode (mC M) pc = .ok (.ldiv, 1)) (k : G Γ M d b Q (pc + 1) ls (.long (x / y) :: st) μ) : G Γ M d b Q pc ls (.long y :: .long x :: st) μ :=
  g_lift (fun _ _ _ _ _ _ _ _ _ _ _ _ _ _ _ F _ k => lv_ldiv F.1 F.2.1 hd hne k) k
theorem g_lrem {x y : Int64} (hne : ¬ y = 0) (hd : decode (mC M) pc = .ok (.lrem, 1)) (k : G Γ M d b Q (pc + 1) ls (.long (x - x / y * y) :: st) μ) : G Γ M d b Q pc ls (.long y :: .long x :: st) μ :=
  g_lift (fun _ _ _ _ _ _ _ _ _ _ _ _ _ _ _ F _ k => lv_lrem F.1 F.2.1 hd hne k) k
theorem g_lshl {x : Int64} {y : Int32} (hd : decode (mC M) pc = .ok (.lshl, 1)) (k : G Γ M d b Q (pc + 1) ls (.long (x <<< (y.toInt64 &&& 63)) :: st) μ) : G Γ M d b Q pc ls (.int y :: .long x :: st) μ :=
  g_lift (fun _ _ _ _ _ _ _ _ _ _ _ _ _ _ _ F _ k => lv_lshl F.1 F.2.1 hd rfl k) k
theorem g_lushr {x : Int64} {y : Int32} (hd : decode (mC M) pc = .ok (.lushr, 1)) (k : G Γ M d b Q (pc + 1) ls (.long ((x.toUInt64 >>> (y.toInt64.toUInt64 &&& Int64.toUInt64 63)).toInt64) :: st) μ) : G Γ M d b Q pc ls (.int y :: .long x :: st) μ :=
  g_lift (fun _ _ _ _ _ _ _ _ _ _ _ _ _ _ _ F _ k => lv_lushr F.1 F.2.1 hd rfl k) k
theorem g_lcmp {x y : Int64} (hd : decode (mC M) pc = .ok (.lcmp, 1)) (k : G Γ M d b Q (pc + 1) ls (.int (lg_cmp x y) :: st) μ) : G Γ M d b Q pc ls (.long y :: .long x :: st) μ :=
  g_lift (fun _ _ _ _ _ _ _ _ _ _ _ _ _ _ _ F _ k => W.lcmp F.1 F.2.1 hd k) k
theorem g_i2l {x : Int32} (hd : decode (mC M) pc = .ok (.i2l, 1)) (k : G Γ M d b Q (pc + 1) ls (.long x.toInt64 :: st) μ) : G Γ M d b Q pc ls (.int x :: st) μ :=
  g_lift (fun _ _ _ _ _ _ _ _ _ _ _ _ _ _ _ F _ k => lv_i2l F.1 F.2.1 hd rfl k) k
theorem g_l2i {x : Int64} (hd : decode (mC M) pc = .ok (.l2i, 1)) (k : G Γ M d b Q (pc + 1) ls (.int x.toInt32 :: st) μ) : G Γ M d b Q pc ls (.long x :: st) μ :=
  g_lift (fun _ _ _ _ _ _ _ _ _ _ _ _ _ _ _ F _ k => lv_l2i F.1 F.2.1 hd rfl k) k
theorem g_i2b {x : Int32} (hd : decode (mC M) pc = .ok (.i2b, 1)) (k : G Γ M d b Q (pc + 1) ls (.int x.toInt8.toInt32 :: st) μ) : G Γ M d b Q pc ls (.int x :: st) μ :=
  g_lift (fun _ _ _ _ _ _ _ _ _ _ _ _ _ _ _ F _ k => lv_i2b F.1 F.2.1 hd rfl k) k
theorem g_dup {v : Value} (hv : v.category = 1) (hd : decode (mC M) pc = .ok (.dup, 1)) (k : G Γ M d b Q (pc + 1) ls (v :: v :: st) μ) : G Γ M d b Q pc ls (v :: st) μ :=
  g_lift (fun _ _ _ _ _ _ _ _ _ _ _ _ _ _ _ F _ k => lv_dup F.1 F.2.1 hd (by rw [tr_cat]; exact hv) k) k
theorem g_dup2 {v u : Value} (hv : v.category = 1) (hu : u.category = 1) (hd : decode (mC M) pc = .ok (.dup2, 1)) (k : G Γ M d b Q (pc + 1) ls (v :: u :: v :: u :: st) μ) : G Γ M d b Q pc ls (v :: u :: st) μ :=
  g_lift (fun _ _ _ _ _ _ _ _ _ _ _ _ _ _ _ F _ k => lv_dup2_11 F.1 F.2.1 hd (by rw [tr_cat]; exact hv) (by rw [tr_cat]; exact hu) k) k
theorem g_pop {v : Value} (hv : v.category = 1) (hd : decode (mC M) pc = .ok (.pop, 1)) (k : G Γ M d b Q (pc + 1) ls st μ) : G Γ M d b Q pc ls (v :: st) μ :=
  g_lift (fun _ _ _ _ _ _ _ _ _ _ _ _ _ _ _ F _ k => lv_pop F.1 F.2.1 hd (by rw [tr_cat]; exact hv) k) k
theorem g_goto {off : Int} (ht : (pc : Int) + off = (pc' : Int)) (hd : decode (mC M) pc = .ok (.goto off, 3)) (k : G Γ M d b Q pc' ls st μ) : G Γ M d b Q pc ls st μ :=
  g_lift (fun _ _ _ _ _ _ _ _ _ _ _ _ _ _ _ F _ k => lv_goto F.1 F.2.1 hd ht k) k
end GS
