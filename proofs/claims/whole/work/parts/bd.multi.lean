/-! AN ARRAY OF ARRAYS -/
def mlt (μ : XM) (n : Nat) : XM := (μ.1, μ.2.1, fun a j => if a = xN μ ∧ j < n then some (xN μ + 1 + j) else xR μ a j, xN μ + 1 + n)
theorem xN_mlt (μ : XM) (n : Nat) : xN (mlt μ n) = xN μ + 1 + n := rfl
theorem fvl_mlt {Γ : XG} {μ : XM} {n k : Nat} (h : k ≠ xN μ) (ty : FieldType) (j : Nat) : fvl Γ (mlt μ n) k ty j = fvl Γ μ k ty j := by
  have e : xR (mlt μ n) k j = xR μ k j := by
    show (if k = xN μ ∧ j < n then _ else _) = _
    rw [if_neg (fun q => h q.1)]
  unfold fvl
  rw [e]
  rfl
/-- the outer row with i of its places laid -/
def mlO (c : ClassId) (N h i : Nat) : Cell := arrV c N (fun j => if j < i then .ref (h + 1 + j) else .null)
def mlI (c : ClassId) (K : Nat) : Cell := arrV c K (fun _ => .int 0)
theorem mlO_step (c : ClassId) (N h i : Nat) : (mlO c N h i).setSlot i (.ref (h + 1 + i)) = mlO c N h (i + 1) := by
  unfold mlO
  rw [arrV_store]
  congr 1
  funext j
  unfold updV
  by_cases e : j = i
  · rw [if_pos e, if_pos (by omega), e]
  · rw [if_neg e]
    show (if j < i then Value.ref (h + 1 + j) else .null) = if j < i + 1 then Value.ref (h + 1 + j) else .null
    by_cases q : j < i
    · rw [if_pos q, if_pos (by omega)]
    · rw [if_neg q, if_neg (by omega)]
/-- the state when i rows are made and laid -/
def mlS (s : State) (c r : ClassId) (N K : Nat) : Nat → State
  | 0 => s.pushCell (mlO c N s.heap.size 0)
  | i + 1 => ((mlS s c r N K i).pushCell (mlI r K)).setCell s.heap.size (mlO c N s.heap.size (i + 1))
theorem mlS_top (s : State) (g : JFrame) (c r : ClassId) (N K : Nat) : ∀ i, mlS (s.setTop g) c r N K i = (mlS s c r N K i).setTop g
  | 0 => rfl
  | i + 1 => by
    unfold mlS
    rw [mlS_top s g c r N K i]
    rfl
theorem mlS_is (s : State) (c r : ClassId) (N K : Nat) : ∀ i, (mlS s c r N K i).heap.size = s.heap.size + 1 + i ∧ (mlS s c r N K i).heap[s.heap.size]? = some (mlO c N s.heap.size i) ∧ (mlS s c r N K i).vm = s.vm ∧ (mlS s c r N K i).slotsUsed = s.slotsUsed + N + i * K ∧
    (∀ a : Nat, a < s.heap.size → (mlS s c r N K i).heap[a]? = s.heap[a]?) ∧ ∀ j, j < i → (mlS s c r N K i).heap[s.heap.size + 1 + j]? = some (mlI r K)
  | 0 => ⟨by simp [mlS], by simp [mlS], rfl, by simp [mlS, mlO, arrV_size], fun a ha => State.heap_pushCell_of_lt _ _ ha, fun j hj => absurd hj (Nat.not_lt_zero _)⟩
  | i + 1 => by
    obtain ⟨a1, a2, a3, a4, a5, a6⟩ := mlS_is s c r N K i
    have hlt : s.heap.size < (mlS s c r N K i).heap.size := by omega
    have hp : ((mlS s c r N K i).pushCell (mlI r K)).heap[s.heap.size]? = some (mlO c N s.heap.size i) := (State.heap_pushCell_of_lt _ _ hlt).trans a2
    refine ⟨by simp [mlS, State.setCell, a1]; omega, State.heap_setCell_self hp, by simp [mlS, a3], by simp [mlS, a4, mlI, arrV_size, Nat.succ_mul]; omega, fun a ha => ?_, fun j hj => ?_⟩
    · refine (State.heap_setCell_other (Nat.ne_of_gt ha)).trans ?_
      have q1 : a < (mlS s c r N K i).heap.size := by omega
      exact (State.heap_pushCell_of_lt _ _ q1).trans (a5 a ha)
    · refine (State.heap_setCell_other (show s.heap.size ≠ s.heap.size + 1 + j by omega)).trans ?_
      by_cases q : j < i
      · have q1 : s.heap.size + 1 + j < (mlS s c r N K i).heap.size := by omega
        exact (State.heap_pushCell_of_lt _ _ q1).trans (a6 j q)
      · have e : s.heap.size + 1 + j = (mlS s c r N K i).heap.size := by omega
        rw [e]
        exact State.heap_pushCell_size _ _
section MLW
variable {E : CtlPost} {e : Env} {d : Bool} {acts : List Action} {s : State}
theorem ml_fit {t : FieldType} (h : t.isReference = true) (v : Value) (hv : v = .null ∨ ∃ a, v = .ref a) : fits t v = true := by
  rcases hv with rfl | ⟨a, rfl⟩ <;> cases t <;> first | rfl | cases h
/-- one row of ints -/
theorem ml_row {r cc : ClassId} {kr : Class} {k : Int32} (hr : s.vm.classes[r]? = some kr) (hk : kr.kind = .array cc .int) (h0 : ¬ k < 0) (hl : ¬ k.toNatClampNeg > e.platform.arrayLengthLimit) (hh : ¬ k.toNatClampNeg * componentBytes .int > e.platform.maxHeapBytes)
    (h1 : s.heap.size < e.platform.maxCells) (h2 : s.slotsUsed + k.toNatClampNeg ≤ e.platform.maxSlots) {Q : Addr → Pre} (hq : ∀ acts', Q s.heap.size d acts' (s.pushCell (mlI r k.toNatClampNeg))) : wp (Op.multianewarray.make r [k]) Q E e d acts s := by
  rw [Op.multianewarray.make]
  simp only [wp_bind', W.ite, h0, if_false, wp_pure', W.theClass, hr, hk, Option.some.injEq, exists_eq_left']
  refine W.newArray_of hr hk hl hh h1 h2 rfl fun acts' => ?_
  have := hq acts'
  unfold mlI at this
  rw [← arrV_new] at this
  exact this
/-- n rows of k ints -/
theorem ml_rows {c r cc : ClassId} {k kr : Class} {n m : Int32} (hc : s.vm.classes[c]? = some k) (hk : k.kind = .array r (.array .int)) (hr : s.vm.classes[r]? = some kr) (hkr : kr.kind = .array cc .int) (hn : ¬ n < 0) (hm : ¬ m < 0)
    (l1 : ¬ n.toNatClampNeg > e.platform.arrayLengthLimit) (b1 : ¬ n.toNatClampNeg * componentBytes (.array .int) > e.platform.maxHeapBytes) (l2 : ¬ m.toNatClampNeg > e.platform.arrayLengthLimit) (b2 : ¬ m.toNatClampNeg * componentBytes .int > e.platform.maxHeapBytes)
    (h1 : s.heap.size + 1 + n.toNatClampNeg ≤ e.platform.maxCells) (h2 : s.slotsUsed + n.toNatClampNeg + n.toNatClampNeg * m.toNatClampNeg ≤ e.platform.maxSlots)
    {Q : Addr → Pre} (hq : ∀ d' acts', Q s.heap.size d' acts' (mlS s c r n.toNatClampNeg m.toNatClampNeg n.toNatClampNeg)) : wp (Op.multianewarray.make c [n, m]) Q E e d acts s := by
  have hf : ([m].find? (· < 0)) = none := by simp [hm]
  rw [Op.multianewarray.make]
  simp only [wp_bind', W.ite, hn, if_false, wp_pure', W.theClass, hc, hk, Option.some.injEq, exists_eq_left']
  refine W.newArray_of hc hk l1 b1 (by omega) (by have := Nat.zero_le (n.toNatClampNeg * m.toNatClampNeg); omega) rfl fun acts0 => ?_
  have e0 : s.pushCell { cls := c, slots := Array.replicate n.toNatClampNeg Value.null } = mlS s c r n.toNatClampNeg m.toNatClampNeg 0 := by
    unfold mlS mlO
    rw [arrV_new]
    congr 2
  rw [e0]
  simp only [hf]
  rw [ite_self, wp_bind', Std.Legacy.Range.forIn_eq_forIn_range']
  rw [show ([:n.toNatClampNeg] : Std.Legacy.Range).size = n.toNatClampNeg by simp [Std.Legacy.Range.size]]
  refine wp_forIn_inv (fun rest t => ∃ i, i ≤ n.toNatClampNeg ∧ rest = List.range' i (n.toNatClampNeg - i) ∧ t = mlS s c r n.toNatClampNeg m.toNatClampNeg i) _ _ ⟨0, Nat.zero_le _, rfl, rfl⟩ ?_ ?_
  · rintro x rest t d' acts' Q' ⟨i, hi, hl, rfl⟩ hnext
    have hlt : i < n.toNatClampNeg := by
      refine Nat.lt_of_not_le fun q => ?_
      rw [show n.toNatClampNeg - i = 0 by omega] at hl
      cases hl
    obtain ⟨rfl, hrest⟩ : x = i ∧ rest = List.range' (i + 1) (n.toNatClampNeg - (i + 1)) := by
      rw [show n.toNatClampNeg - i = (n.toNatClampNeg - (i + 1)) + 1 by omega, List.range'_succ] at hl
      exact List.cons.inj hl
    obtain ⟨f1, f2, f3, f4, -, -⟩ := mlS_is s c r n.toNatClampNeg m.toNatClampNeg x
    have hmul := Nat.mul_le_mul_right m.toNatClampNeg (show x + 1 ≤ n.toNatClampNeg from hlt)
    rw [Nat.succ_mul] at hmul
    simp only [wp_bind']
    refine ml_row (by rw [f3]; exact hr) hkr hm l2 b2 (by rw [f1]; omega) (by rw [f4]; omega) fun acts1 => ?_
    have hlt0 : s.heap.size < (mlS s c r n.toNatClampNeg m.toNatClampNeg x).heap.size := by rw [f1]; omega
    simp only [wp_bind', W.writeLoc, wp_pure']
    refine ⟨mlO c n.toNatClampNeg s.heap.size x, (State.heap_pushCell_of_lt _ _ hlt0).trans f2, (fun q => by cases q), by unfold mlO; rw [arrV_size]; exact hlt, ?_, hnext _ _ _ ⟨x + 1, hlt, hrest, ?_⟩⟩
    · have e1 : (mlO c n.toNatClampNeg s.heap.size x).cls = c := rfl
      have e2 : (mlO c n.toNatClampNeg s.heap.size x).vm = .none := rfl
      rw [e1, e2]
      simp [State.fitsSlot, State.slotType?, f3, hc, hk, ml_fit (t := .array .int) rfl _ (Or.inr ⟨_, rfl⟩)]
    · rw [f1]
      show _ = ((mlS s c r n.toNatClampNeg m.toNatClampNeg x).pushCell (mlI r m.toNatClampNeg)).setCell s.heap.size (mlO c n.toNatClampNeg s.heap.size (x + 1))
      rw [← mlO_step]
  · rintro t d' acts' ⟨i, hi, hl, rfl⟩
    have e1 : i = n.toNatClampNeg := by
      refine Decidable.byContradiction fun q => ?_
      rw [show n.toNatClampNeg - i = (n.toNatClampNeg - (i + 1)) + 1 by omega, List.range'_succ] at hl
      cases hl
    rw [e1]
    simp only [wp_pure']
    exact hq _ _
end MLW
section MLX
variable {p : Program} {l : Launch} {e : Env} {R : Room} {s : State} {m : MethodId} {args : Array Value} {below : List Frame} {meth : Method} {c : Code} {T : State} {locs : List Loc} {cells slots : Nat}
theorem ml_stand (X : Stand p l e R s m args below meth c T locs cells slots) (cA r : ClassId) (N K : Nat) : ∀ i, Stand p l e R s m args below meth c (mlS T cA r N K i) (locs ++ (List.range i).map fun j => ⟨T.heap.size, j⟩) (cells + 1 + i) (slots + N + i * K)
  | 0 => by
    have h := X.pushed (mlO cA N T.heap.size 0)
    unfold mlO at h
    rw [arrV_size] at h
    rw [Nat.zero_mul]
    simpa [mlS, mlO] using h
  | i + 1 => by
    have Xi := ml_stand X cA r N K i
    obtain ⟨f1, f2, -, -, -, -⟩ := mlS_is T cA r N K i
    have hlt : T.heap.size < (mlS T cA r N K i).heap.size := by rw [f1]; omega
    have h := (Xi.pushed (mlI r K)).stored ((State.heap_pushCell_of_lt _ _ hlt).trans f2) i (.ref (T.heap.size + 1 + i))
    rw [mlO_step] at h
    have e1 : (mlI r K).slots.size = K := arrV_size _ _ _
    rw [e1] at h
    have e2 : (locs ++ (List.range (i + 1)).map fun j => (⟨T.heap.size, j⟩ : Loc)) = (locs ++ (List.range i).map fun j => (⟨T.heap.size, j⟩ : Loc)) ++ [⟨T.heap.size, i⟩] := by simp [List.range_succ, List.append_assoc]
    rw [e2, show slots + N + (i + 1) * K = slots + N + i * K + K by rw [Nat.succ_mul]; omega]
    exact h
/-- the component of an array class of rows -/
theorem ml_over {args : Array Value} {first s : State} {o : Option Outcome} {idx : List Nat} {t : FieldType} (h : (Cond.arrayOver (.array t)).holds args first o s idx = true) : ∃ comp c k, s.vm.findClass (FieldType.array t).toString = some comp ∧ s.vm.classes[c]? = some k ∧ k.kind = .array comp (.array t) ∧ s.vm.findClass ("[" ++ (FieldType.array t).toString) = some c := by
  obtain ⟨comp, c, k, h1, -, h2, h3, h4⟩ := arrayOverA_spec h
  exact ⟨comp, c, k, h1, h2, h3, h4⟩
/-- new int[n][k], at its instruction -/
theorem ml_step (X : Stand p l e R s m args below meth c T locs cells slots) (hexec : p.tables.exec = Jvm.exec) {own : String} {index : Nat} (hown : s.vm.findClass own = some m.cls) (hclink : (Cond.classLink own index "[[I").before args s = true) (hover : (Cond.arrayOver (.array .int)).before args s = true) (harr : (Cond.arrayClass .int).before args s = true)
    {g : JFrame} (hg : g.method = m) (hdg : decode c.code g.pc = .ok (.multianewarray index 2, 4)) {n k : Int32} {rest : List Value} (hstack : g.stack = .int k :: .int n :: rest) (hn : ¬ n < 0) (hk : ¬ k < 0) (b1 : n.toNatClampNeg * 4 ≤ 536870912) (b2 : k.toNatClampNeg * 4 ≤ 536870912)
    (hcells : cells + (1 + n.toNatClampNeg) ≤ R.cells) (hslots : slots + (n.toNatClampNeg + n.toNatClampNeg * k.toNatClampNeg) ≤ R.slots) :
    ∃ (vm₁ : Vm) (cA r : ClassId), s.WarmedH vm₁ ∧ s.vm.findClass "[[I" = some cA ∧ s.vm.findClass "[I" = some r ∧
      Stand p l e R s m args below meth c (mlS (T.setVm vm₁) cA r n.toNatClampNeg k.toNatClampNeg n.toNatClampNeg) (locs ++ (List.range n.toNatClampNeg).map fun j => ⟨T.heap.size, j⟩) (cells + 1 + n.toNatClampNeg) (slots + n.toNatClampNeg + n.toNatClampNeg * k.toNatClampNeg) ∧
      ∀ target, Steps p.tables e below ((mlS (T.setVm vm₁) cA r n.toNatClampNeg k.toNatClampNeg n.toNatClampNeg).setTop { g with pc := g.pc + 4, stack := .ref T.heap.size :: rest }) target → Steps p.tables e below (T.setTop g) target := by
  subst hg
  have hpl : e.platform.magicAccessors = ({} : Platform).magicAccessors := by rw [X.admits.platform]
  obtain ⟨r, cA, kA, hr, hkA, hkindA, hnA⟩ := ml_over hover
  obtain ⟨r', kR, cc, hr', hkR, hkindR⟩ := Cond.arrayClass_spec harr
  have er : r' = r := Option.some.inj (hr'.symm.trans hr)
  subst er
  obtain ⟨c0, hf0, hcl⟩ := Cond.classLink_spec hown hclink e.platform hpl
  have ec : cA = c0 := Option.some.inj (hnA.symm.trans hf0)
  subst ec
  obtain ⟨hg₁, hW₁, hready₁⟩ := State.classEntry (e := e) X.warmed hcl
  generalize T.vm.noted g.method.cls index (.cls cA) = vm₁ at hg₁ hW₁ hready₁
  obtain ⟨kA₁, hkA₁, heA⟩ := hW₁.alike.2.2 _ _ hkA
  obtain ⟨kR₁, hkR₁, heR⟩ := hW₁.alike.2.2 _ _ hkR
  have hkindA₁ : kA₁.kind = .array r' (.array .int) := by rw [heA]; exact hkindA
  have hkindR₁ : kR₁.kind = .array cc .int := by rw [heR]; exact hkindR
  have X₁ := X.noted hW₁
  obtain ⟨hr1, hr2⟩ := X.roomAbove hcells hslots
  refine ⟨vm₁, cA, r', hW₁, hnA, hr, ml_stand X₁ cA r' _ _ _, fun target hrest => ?_⟩
  have l1 : ¬ n.toNatClampNeg > e.platform.arrayLengthLimit := by rw [Launch.admits_arrayLengthLimit X.admits]; omega
  have l2 : ¬ k.toNatClampNeg > e.platform.arrayLengthLimit := by rw [Launch.admits_arrayLengthLimit X.admits]; omega
  have m1 : ¬ n.toNatClampNeg * componentBytes (.array .int) > e.platform.maxHeapBytes := by rw [Launch.admits_maxHeapBytes X.admits]; show ¬ n.toNatClampNeg * 4 > 536870912; omega
  have m2 : ¬ k.toNatClampNeg * componentBytes .int > e.platform.maxHeapBytes := by rw [Launch.admits_maxHeapBytes X.admits]; show ¬ k.toNatClampNeg * 4 > 536870912; omega
  jvm_step X.here [hexec, hdg]
  simp only [Op.multianewarray.sem, wp_bind', W.resolveClassAt_links (State.method?_setTop g X.here.top) hg₁]
  rw [W.popN, if_neg (by decide)]
  refine ⟨g, State.topJava?_setTop' (s := T.setVm vm₁) g X.here.top, [.int n, .int k], rest, rfl, hstack, ?_⟩
  simp only [List.mapM_cons, List.mapM_nil, wp_bind', wp_pure']
  refine ml_rows (k := kA₁) (kr := kR₁) (r := r') (cc := cc) hkA₁ hkindA₁ hkR₁ hkindR₁ hn hk l1 m1 l2 m2 (by show T.heap.size + 1 + _ ≤ _; omega) (by show T.slotsUsed + _ + _ ≤ _; omega) (fun d' acts' => ?_)
  have XF := ml_stand X₁ cA r' n.toNatClampNeg k.toNatClampNeg n.toNatClampNeg
  have eS : ((T.setTop g).setVm vm₁).setTop { g with stack := rest } = (T.setVm vm₁).setTop { g with stack := rest } := by
    show ((T.setVm vm₁).setTop g).setTop _ = _
    rw [State.setTop_setTop]
  rw [eS, mlS_top]
  simp only [wp_bind', W.mark, W.pushRef, State.topJava?_setTop' _ XF.here.top, Option.some.injEq, exists_eq_left', State.setTop_setTop, State.heap_setTop]
  intro acts
  simp [jvm, XF.here.top]
  exact hrest
end MLX
theorem g_multi {Γ : XG} {M : MM} {d b1 b2 : Nat} {Q : Option Value → XM → Prop} {pc : Nat} {ls st : List Value} {μ : XM} {i n k : Nat} (hcl : Cond.classLink (cnm (mOwn M)) i "[[I" ∈ lwG) (harr : Cond.arrayClass .int ∈ lwG) (hs : shp (xN μ) = some (.inr (8, n))) (hr : ∀ j, j < n → shp (xN μ + 1 + j) = some (.inr (0, k))) (hz : ∀ c, xN μ ≤ c → zc μ c)
    (hn : n < 1000) (hk : k < 1000) (hd : decode (mC M) pc = .ok (.multianewarray i 2, 4)) (kk : G Γ M d (b1, b2) Q (pc + 4) ls (.ref (xN μ) :: st) (mlt μ n)) : G Γ M d (b1 + (1 + n), b2 + (n + n * k)) Q pc ls (.int (w (k : Int)) :: .int (w (n : Int)) :: st) μ := by
  intro p e R s m args below meth c Z F RX H locs cells slots lsA hR hT hS hL hc hs'
  have hc' : cells + (b1 + (1 + n)) ≤ R.cells := hc
  have hs2 : slots + (b2 + (n + n * k)) ≤ R.slots := hs'
  have en : (w (n : Int)).toNatClampNeg = n := w_cln (by omega)
  have ek : (w (k : Int)).toNatClampNeg = k := w_cln (by omega)
  have hn0 : ¬ w (n : Int) < 0 := by rw [← w0, w_lt (by omega) (by omega) (by omega) (by omega)]; omega
  have hk0 : ¬ w (k : Int) < 0 := by rw [← w0, w_lt (by omega) (by omega) (by omega) (by omega)]; omega
  have hsz := gs_N hR
  have hov : (Cond.arrayOver (.array .int)).before args s = true := (hT.2.2.2.2.2.2.2.2.1 (.array .int) (by decide) : va_Nw _ s)
  intro T hTh X
  have hTz : T.heap.size = gs Γ (xN μ) := by rw [hTh]; exact hsz
  obtain ⟨vm₁, cA, comp, hW, hfA, hfC, X1, step⟩ := ml_step X F.1 (own := cnm (mOwn M)) (index := i) F.2.2.2.2.1 (F.2.2.2.2.2.1 _ hcl) hov (F.2.2.2.2.2.1 _ harr)
    (g := F0 m pc lsA ((Value.int (w (k : Int)) :: .int (w (n : Int)) :: st).map (tr Γ))) rfl (by rw [F.2.1]; exact hd) (n := w (n : Int)) (k := w (k : Int)) (rest := st.map (tr Γ)) rfl hn0 hk0 (by rw [en]; omega) (by rw [ek]; omega) (by rw [en]; omega) (by rw [en, ek]; omega)
  rw [en, ek] at X1 step
  have hA8 : cA = Γ.2.2.1 8 := Option.some.inj (hfA.symm.trans (F.2.2.2.2.2.2.2.2.1.2 8 _ (tysX_at (by decide))).2)
  have hA0 : comp = Γ.2.2.1 0 := Option.some.inj (hfC.symm.trans (F.2.2.2.2.2.2.2.2.1.2 0 _ (tysX_at (by decide))).2)
  subst hA8 hA0
  have hT1 : (T.setVm vm₁).heap = H := hTh
  obtain ⟨f1, f2, -, -, f3, f4⟩ := mlS_is (T.setVm vm₁) (Γ.2.2.1 8) (Γ.2.2.1 0) n k n
  rw [hT1] at f1 f2 f3 f4
  generalize hT' : mlS (T.setVm vm₁) (Γ.2.2.1 8) (Γ.2.2.1 0) n k n = T' at X1 step f1 f2 f3 f4
  obtain ⟨h1, h2, h3⟩ := hR
  have hgN : gs Γ (xN μ) = H.size := hsz.symm
  have hgj : ∀ j, gs Γ (xN μ + 1 + j) = H.size + 1 + j := fun j => by rw [hsz]; unfold gs; rw [if_neg (by omega), if_neg (by omega)]; omega
  have hR' : Rep Γ (mlt μ n) T'.heap := by
    refine ⟨by rw [f1, h1, xN_mlt]; omega, by rw [xN_mlt]; omega, fun q hq hq2 => ?_⟩
    rw [xN_mlt] at hq2
    by_cases e1 : q = xN μ
    · subst e1
      unfold cOK
      rw [hs]
      show T'.heap[gs Γ (xN μ)]? = _
      rw [hgN, f2]
      unfold mlO
      congr 2
      funext j
      show _ = tro Γ (if xN μ = xN μ ∧ j < n then some (xN μ + 1 + j) else xR μ (xN μ) j)
      by_cases hj : j < n
      · rw [if_pos hj, if_pos ⟨rfl, hj⟩]
        show _ = Value.ref (gs Γ (xN μ + 1 + j))
        rw [hgj]
      · rw [if_neg hj, if_neg (fun q => hj q.2), (hz _ (Nat.le_refl _) j).2.2]
        rfl
    · by_cases e2 : q < xN μ
      · have hg : T'.heap[gs Γ q]? = H[gs Γ q]? := f3 (gs Γ q) (by unfold gs; rw [if_neg (by omega), h1]; omega)
        have h := h3 q hq e2
        unfold cOK at h ⊢
        split at h
        · trivial
        · obtain ⟨r, q1, q2⟩ := h
          refine ⟨r, q1, ?_⟩
          have := q2.kept hg
          rw [show (fun j => fvl Γ (mlt μ n) q (tyT _ j) j) = (fun j => fvl Γ μ q (tyT _ j) j) from funext fun j => fvl_mlt e1 _ _]
          exact this
        · rw [hg, h]
          congr 2
          funext j
          exact (fvl_mlt e1 _ _).symm
      · obtain ⟨j, rfl⟩ : ∃ j, q = xN μ + 1 + j := ⟨q - xN μ - 1, by omega⟩
        have hj : j < n := by omega
        unfold cOK
        rw [hr j hj]
        show T'.heap[gs Γ (xN μ + 1 + j)]? = _
        rw [hgj, f4 j hj]
        unfold mlI
        congr 2
        funext x
        rw [fvl_mlt e1]
        exact dfl (ty := .int) rfl (hz _ (by omega))
  have hS' : va_S (gA Γ) s.heap T'.heap (locs ++ (List.range n).map fun j => ⟨T.heap.size, j⟩) := by
    refine ⟨by rw [f1]; exact Nat.le_trans hS.1 (by omega), fun x y1 y2 => (f3 x (Nat.lt_of_lt_of_le y1 hS.1)).trans (hS.2.1 x y1 y2), fun l hl => ?_⟩
    rcases List.mem_append.mp hl with q | q
    · exact hS.2.2 l q
    · obtain ⟨j, -, rfl⟩ := List.mem_map.mp q
      show gA Γ T.heap.size
      rw [hTz]
      exact gs_A h2
  obtain ⟨t, a1, b1⟩ := kk p e R s m args below meth c Z F RX T'.heap _ (cells + 1 + n) (slots + n + n * k) lsA hR' (hT.upd (fun q hq j => rfl)) hS' hL (by show cells + 1 + n + b1 ≤ _; omega) (by show slots + n + n * k + b2 ≤ _; omega) T' rfl X1
  refine ⟨t, step t ?_, b1⟩
  rw [hTz]
  exact a1
