/-! THE MINI MACHINE: a method's heap as three functions of (cell, slot); G: the kit's W said over them -/
def w (z : Int) : Int32 := Int32.ofInt z
def wl (z : Int) : Int64 := Int64.ofInt z
abbrev XM : Type := (Nat → Nat → Int32) × (Nat → Nat → Int64) × (Nat → Nat → Option Nat) × Nat
def xI (μ : XM) : Nat → Nat → Int32 := μ.1
def xL (μ : XM) : Nat → Nat → Int64 := μ.2.1
def xR (μ : XM) : Nat → Nat → Option Nat := μ.2.2.1
def xN (μ : XM) : Nat := μ.2.2.2
def up2 {α : Type} (f : Nat → Nat → α) (a k : Nat) (v : α) : Nat → Nat → α := fun b j => if b = a then (if j = k then v else f b j) else f b j
def sI (μ : XM) (a k : Nat) (v : Int32) : XM := (up2 μ.1 a k v, μ.2)
def sL (μ : XM) (a k : Nat) (v : Int64) : XM := (μ.1, up2 μ.2.1 a k v, μ.2.2)
def sR (μ : XM) (a k : Nat) (v : Option Nat) : XM := (μ.1, μ.2.1, up2 μ.2.2.1 a k v, μ.2.2.2)
/-- the first n of the ints of a go to b -/
def sC (μ : XM) (a b n : Nat) : XM := (fun c j => if c = b ∧ j < n then μ.1 a j else μ.1 c j, μ.2)
/-- launch, classes, array classes, addresses of the static cells, the first address of ours, what the formatter is, how long the script (cell 31) is -/
abbrev XG : Type := Launch × va_G × (Nat → ClassId) × (Nat → Nat) × Nat × Value × Nat
def gB (Γ : XG) : Nat := Γ.2.2.2.2.1
def gs (Γ : XG) (k : Nat) : Nat := if k < 32 then Γ.2.2.2.1 k else gB Γ + (k - 32)
def gA (Γ : XG) : Nat → Prop := fun q => gB Γ ≤ q
def tr (Γ : XG) : Value → Value := fun v => match v with
  | .ref k => .ref (gs Γ k)
  | v => v
def tro (Γ : XG) (r : Option Nat) : Value := va_rf (r.map (gs Γ))
def fvl (Γ : XG) (μ : XM) (k : Nat) (ty : FieldType) (j : Nat) : Value := match ty with
  | .long => .long (xL μ k j)
  | .object _ => tro Γ (xR μ k j)
  | .array _ => tro Γ (xR μ k j)
  | _ => .int (xI μ k j)
def cOK (Γ : XG) (μ : XM) (k : Nat) (H : Heap) : Prop := match shp k with
  | none => True
  | some (.inl ci) => ∃ r : vw_C, clT[ci]? = some r ∧ t_OB (gs Γ k) (Γ.2.1.1 ci) r.2.2 (Γ.2.1.2 ci) H (fun j => fvl Γ μ k (tyT ci j) j)
  | some (.inr q) => H[gs Γ k]? = some (arrV (Γ.2.2.1 q.1) q.2 (fun j => fvl Γ μ k (atyT q.1) j))
/-- the heap is as μ says -/
def Rep (Γ : XG) (μ : XM) (H : Heap) : Prop := H.size = gB Γ + (xN μ - 32) ∧ 32 ≤ xN μ ∧ ∀ k, 32 ≤ k → k < xN μ → cOK Γ μ k H
def stN : Nat → String × String := fun k => (([("RULE_FIRST", "[I"), ("KIND_FIRST", "[I"), ("BOX_FIRST", "[I"), ("LAW_LETTERS", "[C"), ("RULE_LETTERS", "[C"), ("RULE_LEAST", "[I"), ("RULE_MOST", "[I"), ("KIND_LETTERS", "[C"), ("KIND_LEAST", "[I"), ("KIND_MOST", "[I"), ("BOX_LETTERS", "[C"), ("BOX_LEAST", "[I"), ("BOX_MOST", "[I"), ("STEP_LETTERS", "[C")] : List (String × String)).getD k ("", ""))
def isNst : Cond → Bool
  | .fieldLinkNest _ _ _ _ _ _ => true
  | .methodLinkNest _ _ _ _ => true
  | _ => false
def ovL : List FieldType := [.object "FrostBox$Law", .object "FrostBox$Plan", .object "FrostBox$Pile", .array .int]
theorem isNst_warm {w : Cond} {s U : State} (h : isNst w = true) (hW : s.WarmedH U.vm) (hZ : va_Nw w s) : va_Nw w U := by
  cases w <;> first | exact va_Nw.warmF hW hZ | exact va_Nw.warmM hW hZ | (simp [isNst] at h)
theorem isNst_tab {w : Cond} (h : isNst w = true) : w.onTables = true := by
  cases w <;> first | rfl | (simp [isNst] at h)
theorem ov_moved {ty : FieldType} {s U : State} (hvm : s.vm.Alike U.vm) (h : va_Nw (.arrayOver ty) s) : va_Nw (.arrayOver ty) U :=
  show (Cond.arrayOver ty).before #[] (s.setVm U.vm) = true from (Cond.arrayOver_setVmC hvm ty).trans h
def strI : Nat → Nat × String := fun k => (([(26, "y"), (32, "aonykm"), (264, "rhle"), (270, "cwopg"), (272, "knal"), (280, "ptlmc")] : List (Nat × String)).getD k (0, ""))
/-- the statics that a Throwable's constructor reads -/
def thN : Nat → String × String := fun k => match k with
  | 0 => ("UNASSIGNED_STACK", Bundle.steD)
  | _ => ("SUPPRESSED_SENTINEL", Bundle.listD)
def nseN : String := "java/util/NoSuchElementException"
/-- the words of the throw that the machine's warming doesn't keep by itself -/
def nxW : List Cond := [.declares ⟨"java/lang/RuntimeException", "<init>", "()V"⟩, .declares ⟨"java/lang/Exception", "<init>", "()V"⟩, .declares ⟨"java/lang/Throwable", "<init>", "()V"⟩, .castable nseN nseN]
theorem nxW_tab {w : Cond} (h : w ∈ nxW) : w.onTables = true := by
  simp only [nxW, List.mem_cons, List.not_mem_nil, or_false] at h
  rcases h with rfl | rfl | rfl | rfl <;> rfl
theorem nxW_warm {w : Cond} {s U : State} (h : w ∈ nxW) (hW : s.WarmedH U.vm) (hZ : va_Nw w s) : va_Nw w U := by
  simp only [nxW, List.mem_cons, List.not_mem_nil, or_false] at h
  rcases h with rfl | rfl | rfl | rfl
  · exact va_Nw.warmD hW hZ
  · exact va_Nw.warmD hW hZ
  · exact va_Nw.warmD hW hZ
  · exact va_Nw.warmC hW hZ
/-- what lies outside our cells and is only read -/
def StX (Γ : XG) (μ : XM) (U : State) : Prop :=
  (∀ k t n, k < 32 → shp k = some (.inr (t, n)) → va_T (atyT t) (gs Γ k) n (fun j => .int (xI μ k j)) (gA Γ) U U.heap) ∧
  (∀ k, k < 14 → va_Z "FrostBox" (stN k).1 (stN k).2 (.ref (gs Γ k)) (gA Γ) U U.heap) ∧
  (∀ i, i < 6 → va_O "java/lang/String" (gs Γ (14 + i)) (gA Γ) U U.heap ∧ va_OF "java/lang/String" "coder" "B" (.int 0) (gs Γ (14 + i)) (gA Γ) U U.heap ∧ va_OF "java/lang/String" "value" "[B" (.ref (gs Γ (20 + i))) (gs Γ (14 + i)) (gA Γ) U U.heap) ∧
  va_Z "java/lang/String" "COMPACT_STRINGS" "Z" (.int 1) (gA Γ) U U.heap ∧
  va_Z "jdk/internal/util/Preconditions" "SIOOBE_FORMATTER" "Ljava/util/function/BiFunction;" (tr Γ Γ.2.2.2.2.2.1) (gA Γ) U U.heap ∧
  (∀ i, i < 6 → vk_R "FrostBoxModel" (strI i).1 (strI i).2 (gs Γ (14 + i)) U) ∧
  va_T .int (gs Γ 31) Γ.2.2.2.2.2.2 (fun j => .int (xI μ 31 j)) (gA Γ) U U.heap ∧
  (∀ w ∈ lw_tbl, isNst w = true → va_Nw w U) ∧
  (∀ ty ∈ ovL, va_Nw (.arrayOver ty) U) ∧
  (∀ k, k < 2 → vx_Zq Bundle.tN (thN k).1 (thN k).2 (gA Γ) U U.heap) ∧
  (∀ w ∈ nxW, va_Nw w U)
def tysX (Γ : XG) : List (ClassId × FieldType) := (List.range 9).map (fun t => (Γ.2.2.1 t, atyT t))
/-- a method: its class's number, its name, its bytes, how many locals, what it returns, how many cells and slots it may make -/
abbrev MM : Type := Nat × MethodName × ByteArray × Nat × Option FieldType × Nat × Nat
def mOwn (M : MM) : Nat := M.1
def mY (M : MM) : MethodName := M.2.1
def mC (M : MM) : ByteArray := M.2.2.1
def mL (M : MM) : Nat := M.2.2.2.1
def mT (M : MM) : Option FieldType := M.2.2.2.2.1
def mc (M : MM) : Nat := M.2.2.2.2.2.1
def ms (M : MM) : Nat := M.2.2.2.2.2.2
def jk : Value := .retAddr 0
def nth : List Value → Nat → Value
  | [], _ => jk
  | v :: _, 0 => v
  | _ :: t, n + 1 => nth t n
/-- a store: a long takes the next place too, and one that is cut goes -/
def stW (c2 : Bool) : List Value → Nat → Value → List Value
  | [], 0, v => if c2 then [v, jk] else [v]
  | [], n + 1, v => jk :: stW c2 [] n v
  | _ :: t, 0, v => if c2 then v :: jk :: t.tail else v :: t
  | u :: t, 1, v => (if u.category = 2 then jk else u) :: stW c2 t 0 v
  | u :: t, n + 2, v => u :: stW c2 t (n + 1) v
theorem nth_nil (j : Nat) : nth [] j = jk := by cases j <;> rfl
theorem nth_tail (t : List Value) (j : Nat) : nth t.tail j = nth t (j + 1) := by cases t <;> simp [nth, nth_nil]
theorem stW_nth (c2 : Bool) (ls : List Value) (i : Nat) (v : Value) (j : Nat) : nth (stW c2 ls i v) j = if j = i then v else if c2 = true ∧ j = i + 1 then jk else if j + 1 = i ∧ (nth ls j).category = 2 then jk else nth ls j := by
  induction ls generalizing i j with
  | nil =>
    have hjk : ∀ j, nth ([] : List Value) j = jk := nth_nil
    induction i generalizing j with
    | zero => cases c2 <;> match j with
      | 0 => simp [stW, nth]
      | 1 => simp [stW, nth, hjk]
      | j + 2 => simp [stW, nth, hjk]
    | succ i ih => match j with
      | 0 => simp [stW, nth]
      | j + 1 =>
        simp only [stW, nth, ih, hjk, Nat.add_right_cancel_iff]
        repeat' split
        all_goals first | rfl | exact ite_self jk | exact if_pos (by assumption) | exact if_neg (by assumption)
  | cons u t ih =>
    match i with
    | 0 => cases c2 <;> match j with
      | 0 => simp [stW, nth]
      | 1 => simp [stW, nth]
      | j + 2 => simp [stW, nth, nth_tail]
    | 1 => match j with
      | 0 => by_cases h : u.category = 2 <;> simp [stW, nth, h]
      | j + 1 => simp only [stW, nth, ih, Nat.add_right_cancel_iff]; simp
    | i + 2 => match j with
      | 0 => simp [stW, nth]
      | j + 1 => simp only [stW, nth, ih, Nat.add_right_cancel_iff]
def LSr (Γ : XG) (lsA : Array Slot) (n : Nat) (ls : List Value) : Prop := lsA.size = n ∧ lv_wf lsA ∧ ∀ i, nth ls i ≠ jk → lsA[i]? = some (.val (tr Γ (nth ls i)))
def lvOf (Γ : XG) (n : Nat) (ls : List Value) : List (Nat × Value) := (List.range n).filterMap (fun j => if nth ls j = jk then none else some (j, tr Γ (nth ls j)))
theorem lvOf_mem {Γ : XG} {n : Nat} {ls : List Value} {q : Nat × Value} : q ∈ lvOf Γ n ls ↔ q.1 < n ∧ nth ls q.1 ≠ jk ∧ q.2 = tr Γ (nth ls q.1) := by
  unfold lvOf
  rw [List.mem_filterMap]
  constructor
  · rintro ⟨j, hj, h⟩
    by_cases e : nth ls j = jk
    · simp [e] at h
    · rw [if_neg e] at h
      cases h
      exact ⟨List.mem_range.mp hj, e, rfl⟩
  · rintro ⟨h1, h2, h3⟩
    exact ⟨q.1, List.mem_range.mpr h1, by rw [if_neg h2, ← h3]⟩
theorem LSr.lv {Γ : XG} {lsA : Array Slot} {n : Nat} {ls : List Value} (h : LSr Γ lsA n ls) : lv_has lsA n (lvOf Γ n ls) := ⟨h.1, h.2.1, fun q hq => by
  obtain ⟨-, h2, h3⟩ := lvOf_mem.mp hq
  rw [h3]
  exact h.2.2 _ h2⟩
theorem tr_cat (Γ : XG) (v : Value) : (tr Γ v).category = v.category := by cases v <;> rfl
theorem LSr.st {Γ : XG} {lsA lsB : Array Slot} {n i : Nat} {ls : List Value} {v : Value} (h : LSr Γ lsA n ls) (hb : lv_has lsB n ((i, tr Γ v) :: (lvOf Γ n ls).filter (fun q => !(q.1 == i) && !(q.1 + 1 == i && q.2.category == 2)))) : LSr Γ lsB n (stW false ls i v) := by
  refine ⟨hb.1, hb.2.1, fun j hj => ?_⟩
  rw [stW_nth] at hj ⊢
  by_cases e : j = i
  · rw [if_pos e, e]
    exact hb.2.2 (i, tr Γ v) List.mem_cons_self
  · rw [if_neg e] at hj ⊢
    simp only [Bool.false_eq_true, false_and, if_false] at hj ⊢
    by_cases e2 : j + 1 = i ∧ (nth ls j).category = 2
    · rw [if_pos e2] at hj
      exact absurd rfl hj
    · rw [if_neg e2] at hj ⊢
      have hlt : j < n := by rw [← h.1]; exact lv_lt (h.2.2 j hj)
      refine hb.2.2 (j, tr Γ (nth ls j)) (List.mem_cons_of_mem _ (List.mem_filter.mpr ⟨lvOf_mem.mpr ⟨hlt, hj, rfl⟩, ?_⟩))
      simp only [tr_cat, Bool.and_eq_true, Bool.not_eq_true', beq_eq_false_iff_ne, ne_eq, Bool.and_eq_false_iff]
      refine ⟨e, ?_⟩
      by_cases e3 : j + 1 = i
      · exact Or.inr fun h => e2 ⟨e3, h⟩
      · exact Or.inl e3
theorem LSr.st2 {Γ : XG} {lsA lsB : Array Slot} {n i : Nat} {ls : List Value} {v : Value} (h : LSr Γ lsA n ls) (hb : lv_has lsB n ((i, tr Γ v) :: (lvOf Γ n ls).filter (fun q => !(q.1 == i) && (!(q.1 == i + 1) && !(q.1 + 1 == i && q.2.category == 2))))) : LSr Γ lsB n (stW true ls i v) := by
  refine ⟨hb.1, hb.2.1, fun j hj => ?_⟩
  rw [stW_nth] at hj ⊢
  by_cases e : j = i
  · rw [if_pos e, e]
    exact hb.2.2 (i, tr Γ v) List.mem_cons_self
  · rw [if_neg e] at hj ⊢
    by_cases e4 : true = true ∧ j = i + 1
    · rw [if_pos e4] at hj
      exact absurd rfl hj
    · rw [if_neg e4] at hj ⊢
      by_cases e2 : j + 1 = i ∧ (nth ls j).category = 2
      · rw [if_pos e2] at hj
        exact absurd rfl hj
      · rw [if_neg e2] at hj ⊢
        have hlt : j < n := by rw [← h.1]; exact lv_lt (h.2.2 j hj)
        refine hb.2.2 (j, tr Γ (nth ls j)) (List.mem_cons_of_mem _ (List.mem_filter.mpr ⟨lvOf_mem.mpr ⟨hlt, hj, rfl⟩, ?_⟩))
        simp only [tr_cat, Bool.and_eq_true, Bool.not_eq_true', beq_eq_false_iff_ne, ne_eq, Bool.and_eq_false_iff]
        refine ⟨e, fun h => e4 ⟨rfl, h⟩, ?_⟩
        by_cases e3 : j + 1 = i
        · exact Or.inr fun h => e2 ⟨e3, h⟩
        · exact Or.inl e3
