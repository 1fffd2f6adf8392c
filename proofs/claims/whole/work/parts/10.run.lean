/-! STRAIGHT CODE BY ONE THEOREM -/
def ctT : List (Nat × Nat × Int) := [(10, 311, (-1000000)), (14, 265, 1431655765), (14, 266, 858993459), (14, 267, 252645135), (5, 32, 999999), (11, 432, (-1000000))]
def ctP : List Nat := [877, 953, 954, 955, 1052, 1744]
def ctW (e : Nat × Nat × Int) : Cond := .constant (cnm e.1) e.2.1 (w e.2.2)
set_option maxRecDepth 100000 in
theorem ct_at : ctT.map ctW = ctP.filterMap (fun i => lw_tbl[i]?) := by rfl
theorem ct_good : (ctT.map ctW).all goodWord = true := by decide +kernel
theorem ct_in : ∀ e ∈ ctT, ctW e ∈ lwG := by
  intro e he
  have h : ctW e ∈ ctT.map ctW := List.mem_map_of_mem he
  have h2 := h
  rw [ct_at] at h2
  obtain ⟨i, -, hi⟩ := List.mem_filterMap.mp h2
  exact lwG_in (List.mem_of_getElem? hi) (List.all_eq_true.mp ct_good _ h)
def llT : List (Nat × Nat × Int) := [(2, 98, (-1000000)), (2, 100, 1000000), (10, 289, 6364136223846793005), (10, 291, 1442695040888963407), (3, 36, 1000), (11, 288, 2), (11, 154, (-1000000)), (11, 156, 1000000), (11, 354, 3), (11, 359, 4), (11, 365, 6), (11, 332, 100), (11, 334, 40), (11, 336, 10), (11, 338, 5), (11, 340, 8191), (11, 370, 9), (11, 410, 99), (11, 422, 6364136223846793005), (11, 424, 1442695040888963407), (11, 452, 30), (11, 491, 1000), (11, 509, 999999), (11, 520, 60), (11, 522, 81), (12, 85, 4294967295)]
def llP : List Nat := [740, 741, 821, 822, 1035, 1400, 1556, 1557, 1589, 1598, 1611, 1630, 1631, 1632, 1633, 1634, 1647, 1713, 1726, 1727, 1772, 1850, 1863, 1917, 1922, 1935]
def llW (e : Nat × Nat × Int) : Cond := .constantLong (cnm e.1) e.2.1 (wl e.2.2)
set_option maxRecDepth 100000 in
theorem ll_at : llT.map llW = llP.filterMap (fun i => lw_tbl[i]?) := by rfl
theorem ll_good : (llT.map llW).all goodWord = true := by decide +kernel
theorem ll_in : ∀ e ∈ llT, llW e ∈ lwG := by
  intro e he
  have h : llW e ∈ llT.map llW := List.mem_map_of_mem he
  have h2 := h
  rw [ll_at] at h2
  obtain ⟨i, -, hi⟩ := List.mem_filterMap.mp h2
  exact lwG_in (List.mem_of_getElem? hi) (List.all_eq_true.mp ll_good _ h)
def sgT : List (Nat × Nat × Nat) := [(10, 389, 8), (10, 392, 9)]
def sgP : List Nat := [1008, 1009]
def sgW (e : Nat × Nat × Nat) : Cond := .fieldLink (cnm e.1) e.2.1 "FrostBox" (stN e.2.2).1 (stN e.2.2).2
set_option maxRecDepth 100000 in
theorem sg_at : sgT.map sgW = sgP.filterMap (fun i => lw_tbl[i]?) := by rfl
theorem sg_good : (sgT.map sgW).all goodWord = true := by decide +kernel
theorem sg_in : ∀ e ∈ sgT, sgW e ∈ lwG := by
  intro e he
  have h : sgW e ∈ sgT.map sgW := List.mem_map_of_mem he
  have h2 := h
  rw [sg_at] at h2
  obtain ⟨i, -, hi⟩ := List.mem_filterMap.mp h2
  exact lwG_in (List.mem_of_getElem? hi) (List.all_eq_true.mp sg_good _ h)
def snT : List (Nat × Nat × Nat) := [(1, 9, 0), (1, 18, 1), (1, 26, 2), (2, 15, 3), (1, 83, 4), (1, 87, 5), (1, 90, 6), (1, 97, 7), (1, 100, 8), (1, 103, 9), (1, 107, 10), (1, 110, 11), (1, 113, 12), (7, 49, 13)]
def snP : List Nat := [173, 175, 179, 353, 502, 504, 506, 532, 534, 536, 538, 540, 542, 621]
def snW (e : Nat × Nat × Nat) : Cond := .fieldLinkNest (cnm e.1) e.2.1 "FrostBox" (stN e.2.2).1 (stN e.2.2).2 "FrostBox"
set_option maxRecDepth 100000 in
theorem sn_at : snT.map snW = snP.filterMap (fun i => lw_tbl[i]?) := by rfl
theorem sn_in : ∀ e ∈ snT, snW e ∈ lw_tbl := by
  intro e he
  have h2 : snW e ∈ snT.map snW := List.mem_map_of_mem he
  rw [sn_at] at h2
  obtain ⟨i, -, hi⟩ := List.mem_filterMap.mp h2
  exact List.mem_of_getElem? hi
abbrev BI : Type := Instr × Nat × Nat × Int
def lenI (i : Instr) : Nat := match i with
  | .iload _ => 2 | .istore _ => 2 | .lload _ => 2 | .lstore _ => 2 | .aload _ => 2 | .astore _ => 2 | .bipush _ => 2 | .ldc _ => 2
  | .sipush _ => 3 | .ldc_w _ => 3 | .ldc2_w _ => 3 | .iinc _ _ => 3 | .goto _ => 3 | .getfield _ => 3 | .putfield _ => 3 | .getstatic _ => 3
  | _ => 1
def nxI (i : Instr) (pc : Nat) : Nat := match i with
  | .goto off => ((pc : Int) + off).toNat
  | i => pc + lenI i
def fldR (ci k : Nat) : Bool := match clT[ci]? with
  | some r => decide (k < r.2.2)
  | none => false
def fldW (ci k : Nat) : Bool := match clT[ci]? with
  | some r => decide (k < r.2.2) && !(r.2.1 k).2.2.2
  | none => false
/-- what the instruction needs of the tables -/
def auxI (M : MM) (ins : Instr) (pc x y : Nat) (z : Int) : Bool := match ins with
  | .bipush n => decide ((Int8.ofInt n).toInt32 = w n)
  | .sipush n => decide ((Int16.ofInt n).toInt32 = w n)
  | .lconst n => decide (z = ((n : Nat) : Int))
  | .ldc i => match x with
    | 0 => ctT.contains (mOwn M, i, z)
    | _ => decide (y < 6) && decide (mOwn M = 11) && decide (i = (strI y).1)
  | .ldc_w i => match x with
    | 0 => ctT.contains (mOwn M, i, z)
    | _ => decide (y < 6) && decide (mOwn M = 11) && decide (i = (strI y).1)
  | .ldc2_w i => llT.contains (mOwn M, i, z)
  | .istore i => decide (i < mL M)
  | .istore_n i => decide ((i : Nat) < mL M)
  | .astore i => decide (i < mL M)
  | .astore_n i => decide ((i : Nat) < mL M)
  | .lstore i => decide (i + 1 < mL M)
  | .lstore_n i => decide ((i : Nat) + 1 < mL M)
  | .iinc i _ => decide (i < mL M)
  | .goto off => decide (0 ≤ (pc : Int) + off)
  | .getfield i => flT.contains (mOwn M, i, x, y) && fldR x y && (match z with
    | 0 => decide (kdT (tyT x y) = 0)
    | 1 => decide (kdT (tyT x y) = 1)
    | _ => decide (kdT (tyT x y) = 2))
  | .putfield i => flT.contains (mOwn M, i, x, y) && fldW x y && (match z with
    | 0 => decide (tyT x y = .int)
    | 1 => decide (tyT x y = .long)
    | 2 => decide (kdT (tyT x y) = 2)
    | _ => decide (tyT x y = .boolean))
  | .getstatic i => decide (y < 14) && (match x with
    | 0 => sgT.contains (mOwn M, i, y)
    | _ => snT.contains (mOwn M, i, y))
  | .aaload => decide (5 ≤ x)
  | _ => true

def stp (ins : Instr) (x y : Nat) (z : Int) (ls st : List Value) (μ : XM) (K : List Value → List Value → XM → Prop) : Prop := match ins with
  | .iconst n => K ls (.int (w n) :: st) μ
  | .bipush n => K ls (.int (w n) :: st) μ
  | .sipush n => K ls (.int (w n) :: st) μ
  | .lconst _ => K ls (.long (wl z) :: st) μ
  | .ldc _ => match x with
    | 0 => K ls (.int (w z) :: st) μ
    | _ => K ls (.ref (14 + y) :: st) μ
  | .ldc_w _ => match x with
    | 0 => K ls (.int (w z) :: st) μ
    | _ => K ls (.ref (14 + y) :: st) μ
  | .ldc2_w _ => K ls (.long (wl z) :: st) μ
  | .iload i => match nth ls i with
    | .int v => K ls (.int v :: st) μ
    | _ => False
  | .iload_n i => match nth ls i with
    | .int v => K ls (.int v :: st) μ
    | _ => False
  | .lload i => match nth ls i with
    | .long v => K ls (.long v :: st) μ
    | _ => False
  | .lload_n i => match nth ls i with
    | .long v => K ls (.long v :: st) μ
    | _ => False
  | .aload i => match nth ls i with
    | .ref v => K ls (.ref v :: st) μ
    | _ => False
  | .aload_n i => match nth ls i with
    | .ref v => K ls (.ref v :: st) μ
    | _ => False
  | .istore i => match st with
    | .int v :: r => K (stW false ls i (.int v)) r μ
    | _ => False
  | .istore_n i => match st with
    | .int v :: r => K (stW false ls i (.int v)) r μ
    | _ => False
  | .lstore i => match st with
    | .long v :: r => K (stW true ls i (.long v)) r μ
    | _ => False
  | .lstore_n i => match st with
    | .long v :: r => K (stW true ls i (.long v)) r μ
    | _ => False
  | .astore i => match st with
    | .ref v :: r => K (stW false ls i (.ref v)) r μ
    | _ => False
  | .astore_n i => match st with
    | .ref v :: r => K (stW false ls i (.ref v)) r μ
    | _ => False
  | .iinc i n => match nth ls i with
    | .int v => K (stW false ls i (.int (v + w n))) st μ
    | _ => False
  | .iadd => match st with
    | .int v :: .int u :: r => K ls (.int (u + v) :: r) μ
    | _ => False
  | .isub => match st with
    | .int v :: .int u :: r => K ls (.int (u - v) :: r) μ
    | _ => False
  | .imul => match st with
    | .int v :: .int u :: r => K ls (.int (u * v) :: r) μ
    | _ => False
  | .iand => match st with
    | .int v :: .int u :: r => K ls (.int (u &&& v) :: r) μ
    | _ => False
  | .ior => match st with
    | .int v :: .int u :: r => K ls (.int (u ||| v) :: r) μ
    | _ => False
  | .ixor => match st with
    | .int v :: .int u :: r => K ls (.int (u ^^^ v) :: r) μ
    | _ => False
  | .ishl => match st with
    | .int v :: .int u :: r => K ls (.int (u <<< (v &&& 31)) :: r) μ
    | _ => False
  | .ishr => match st with
    | .int v :: .int u :: r => K ls (.int (u >>> (v &&& 31)) :: r) μ
    | _ => False
  | .iushr => match st with
    | .int v :: .int u :: r => K ls (.int ((u.toUInt32 >>> (v.toUInt32 &&& Int32.toUInt32 31)).toInt32) :: r) μ
    | _ => False
  | .idiv => match st with
    | .int v :: .int u :: r => ¬ v = 0 ∧ K ls (.int (u / v) :: r) μ
    | _ => False
  | .irem => match st with
    | .int v :: .int u :: r => ¬ v = 0 ∧ K ls (.int (u - u / v * v) :: r) μ
    | _ => False
  | .ladd => match st with
    | .long v :: .long u :: r => K ls (.long (u + v) :: r) μ
    | _ => False
  | .lsub => match st with
    | .long v :: .long u :: r => K ls (.long (u - v) :: r) μ
    | _ => False
  | .lmul => match st with
    | .long v :: .long u :: r => K ls (.long (u * v) :: r) μ
    | _ => False
  | .land => match st with
    | .long v :: .long u :: r => K ls (.long (u &&& v) :: r) μ
    | _ => False
  | .lor => match st with
    | .long v :: .long u :: r => K ls (.long (u ||| v) :: r) μ
    | _ => False
  | .ldiv => match st with
    | .long v :: .long u :: r => ¬ v = 0 ∧ K ls (.long (u / v) :: r) μ
    | _ => False
  | .lrem => match st with
    | .long v :: .long u :: r => ¬ v = 0 ∧ K ls (.long (u - u / v * v) :: r) μ
    | _ => False
  | .lshl => match st with
    | .int v :: .long u :: r => K ls (.long (u <<< (v.toInt64 &&& 63)) :: r) μ
    | _ => False
  | .lushr => match st with
    | .int v :: .long u :: r => K ls (.long ((u.toUInt64 >>> (v.toInt64.toUInt64 &&& Int64.toUInt64 63)).toInt64) :: r) μ
    | _ => False
  | .lcmp => match st with
    | .long v :: .long u :: r => K ls (.int (lg_cmp u v) :: r) μ
    | _ => False
  | .i2l => match st with
    | .int v :: r => K ls (.long v.toInt64 :: r) μ
    | _ => False
  | .l2i => match st with
    | .long v :: r => K ls (.int v.toInt32 :: r) μ
    | _ => False
  | .i2b => match st with
    | .int v :: r => K ls (.int v.toInt8.toInt32 :: r) μ
    | _ => False
  | .dup => match st with
    | .int v :: r => K ls (.int v :: .int v :: r) μ
    | .ref v :: r => K ls (.ref v :: .ref v :: r) μ
    | _ => False
  | .dup2 => match st with
    | .int v :: .ref u :: r => K ls (.int v :: .ref u :: .int v :: .ref u :: r) μ
    | _ => False
  | .pop => match st with
    | .int _ :: r => K ls r μ
    | .ref _ :: r => K ls r μ
    | _ => False
  | .goto _ => K ls st μ
  | .getstatic _ => K ls (.ref y :: st) μ
  | .getfield _ => match st with
    | .ref a :: r => ob μ a x ∧ match z with
      | 0 => K ls (.int (xI μ a y) :: r) μ
      | 1 => K ls (.long (xL μ a y) :: r) μ
      | _ => ∃ a', xR μ a y = some a' ∧ K ls (.ref a' :: r) μ
    | _ => False
  | .putfield _ => match st with
    | .int v :: .ref a :: r => ob μ a x ∧ match z with
      | 0 => K ls r (sI μ a y v)
      | 3 => (v = w 0 ∨ v = w 1) ∧ K ls r (sI μ a y v)
      | _ => False
    | .long v :: .ref a :: r => ob μ a x ∧ z = 1 ∧ K ls r (sL μ a y v)
    | .ref v :: .ref a :: r => ob μ a x ∧ z = 2 ∧ K ls r (sR μ a y (some v))
    | _ => False
  | .iaload => match st with
    | .int i :: .ref a :: r => inb μ 0 a i ∧ K ls (.int (xI μ a i.toNatClampNeg) :: r) μ
    | _ => False
  | .baload => match st with
    | .int i :: .ref a :: r => inb μ x a i ∧ (x = 1 ∨ x = 2) ∧ K ls (.int (xI μ a i.toNatClampNeg) :: r) μ
    | _ => False
  | .caload => match st with
    | .int i :: .ref a :: r => inb μ 3 a i ∧ K ls (.int (xI μ a i.toNatClampNeg) :: r) μ
    | _ => False
  | .laload => match st with
    | .int i :: .ref a :: r => inb μ 4 a i ∧ K ls (.long (xL μ a i.toNatClampNeg) :: r) μ
    | _ => False
  | .aaload => match st with
    | .int i :: .ref a :: r => inb μ x a i ∧ ∃ a', xR μ a i.toNatClampNeg = some a' ∧ K ls (.ref a' :: r) μ
    | _ => False
  | .iastore => match st with
    | .int v :: .int i :: .ref a :: r => inS μ 0 a i ∧ K ls r (sI μ a i.toNatClampNeg v)
    | _ => False
  | .bastore => match st with
    | .int v :: .int i :: .ref a :: r => inS μ x a i ∧ match x with
      | 1 => K ls r (sI μ a i.toNatClampNeg v.toInt8.toInt32)
      | 2 => (v = w 0 ∨ v = w 1) ∧ K ls r (sI μ a i.toNatClampNeg v)
      | _ => False
    | _ => False
  | .lastore => match st with
    | .long v :: .int i :: .ref a :: r => inS μ 4 a i ∧ K ls r (sL μ a i.toNatClampNeg v)
    | _ => False
  | .arraylength => match st with
    | .ref a :: r => ∃ n, ar μ a x n ∧ K ls (.int (w n) :: r) μ
    | _ => False
  | _ => False
def run : List BI → List Value → List Value → XM → (List Value → List Value → XM → Prop) → Prop
  | [], ls, st, μ, K => K ls st μ
  | e :: t, ls, st, μ, K => stp e.1 e.2.1 e.2.2.1 e.2.2.2 ls st μ (fun ls' st' μ' => run t ls' st' μ' K)
def okB (M : MM) : Nat → List BI → Nat → Bool
  | pc, [], pc' => decide (pc = pc')
  | pc, e :: t, pc' => decide (decode (mC M) pc = .ok (e.1, lenI e.1)) && auxI M e.1 pc e.2.1 e.2.2.1 e.2.2.2 && okB M (nxI e.1 pc) t pc'
theorem mem_of_con {α : Type} [BEq α] [LawfulBEq α] {l : List α} {a : α} (h : l.contains a = true) : a ∈ l := by simpa using h
theorem fldR_ok {ci k : Nat} (h : fldR ci k = true) : ∀ r, clT[ci]? = some r → k < r.2.2 := by
  intro r hr
  unfold fldR at h
  rw [hr] at h
  exact of_decide_eq_true h
theorem fldW_ok {ci k : Nat} (h : fldW ci k = true) : ∀ r, clT[ci]? = some r → k < r.2.2 ∧ (r.2.1 k).2.2.2 = false := by
  intro r hr
  unfold fldW at h
  rw [hr] at h
  simp only [Bool.and_eq_true, Bool.not_eq_true'] at h
  exact ⟨of_decide_eq_true h.1, h.2⟩
theorem stp_mono {ins : Instr} {x y : Nat} {z : Int} {ls st : List Value} {μ : XM} {K K' : List Value → List Value → XM → Prop} (hk : ∀ ls st μ, K ls st μ → K' ls st μ) (h : stp ins x y z ls st μ K) : stp ins x y z ls st μ K' := by
  cases ins <;> simp only [stp] at h ⊢ <;> (first
    | exact hk _ _ _ h
    | exact h.elim
    | (split at h <;> (first
        | exact hk _ _ _ h
        | exact h.elim
        | exact ⟨h.1, hk _ _ _ h.2⟩
        | exact ⟨h.1, h.2.1, hk _ _ _ h.2.2⟩
        | (have h2 := h.2
           refine ⟨h.1, ?_⟩
           split at h2 <;> (first
             | exact hk _ _ _ h2
             | exact h2.elim
             | exact ⟨h2.1, hk _ _ _ h2.2⟩
             | exact Exists.elim h2 (fun a' h3 => ⟨a', h3.1, hk _ _ _ h3.2⟩)))
        | exact ⟨h.1, Exists.elim h.2 (fun a' h3 => ⟨a', h3.1, hk _ _ _ h3.2⟩)⟩
        | exact Exists.elim h (fun a' h3 => ⟨a', h3.1, hk _ _ _ h3.2⟩))))
section GR
variable {Γ : XG} {M : MM} {d : Nat} {b : Nat × Nat} {Q : Option Value → XM → Prop} {pc pc' : Nat} {ls st r : List Value} {μ : XM}
theorem stp_ok (ins : Instr) (x y : Nat) (z : Int) (hd : decode (mC M) pc = .ok (ins, lenI ins)) (ha : auxI M ins pc x y z = true) (h : stp ins x y z ls st μ (fun ls' st' μ' => G Γ M d b Q (nxI ins pc) ls' st' μ')) : G Γ M d b Q pc ls st μ := match ins, hd, ha, h with
  | .iconst n, hd, _, h => g_iconst hd h
  | .bipush n, hd, ha, h => g_bipush (of_decide_eq_true ha) hd h
  | .sipush n, hd, ha, h => g_sipush (of_decide_eq_true ha) hd h
  | .lconst n, hd, ha, h => g_lconst hd (by have e : z = ((n : Nat) : Int) := of_decide_eq_true ha; rw [← e]; exact h)
  | .ldc2_w i, hd, ha, h => g_ldc2 (ll_in (mOwn M, i, z) (mem_of_con ha)) hd h
  | .ldc i, hd, ha, h => by
    match x, ha, h with
    | 0, ha, h => exact g_ldc (ct_in (mOwn M, i, z) (mem_of_con ha)) hd h
    | x + 1, ha, h =>
      simp only [auxI, Bool.and_eq_true, decide_eq_true_eq] at ha
      obtain ⟨⟨h1, h2⟩, rfl⟩ := ha
      exact g_ldcS h1 (by rw [h2]; rfl) hd h
  | .ldc_w i, hd, ha, h => by
    match x, ha, h with
    | 0, ha, h => exact g_ldcw (ct_in (mOwn M, i, z) (mem_of_con ha)) hd h
    | x + 1, ha, h =>
      simp only [auxI, Bool.and_eq_true, decide_eq_true_eq] at ha
      obtain ⟨⟨h1, h2⟩, rfl⟩ := ha
      exact g_ldcwS h1 (by rw [h2]; rfl) hd h
  | .goto off, hd, ha, h => g_goto (pc' := nxI (.goto off) pc) (by have e : 0 ≤ (pc : Int) + off := of_decide_eq_true ha; show (pc : Int) + off = ((((pc : Int) + off).toNat : Nat) : Int); omega) hd h
  | .iload i, hd, ha, h => by
    simp only [stp] at h
    split at h
    · rename_i v hv
      exact g_iload hv hd h
    · exact h.elim
  | .iload_n i, hd, ha, h => by
    simp only [stp] at h
    split at h
    · rename_i v hv
      exact g_iload_n hv hd h
    · exact h.elim
  | .lload i, hd, ha, h => by
    simp only [stp] at h
    split at h
    · rename_i v hv
      exact g_lload hv hd h
    · exact h.elim
  | .lload_n i, hd, ha, h => by
    simp only [stp] at h
    split at h
    · rename_i v hv
      exact g_lload_n hv hd h
    · exact h.elim
  | .aload i, hd, ha, h => by
    simp only [stp] at h
    split at h
    · rename_i v hv
      exact g_aload hv hd h
    · exact h.elim
  | .aload_n i, hd, ha, h => by
    simp only [stp] at h
    split at h
    · rename_i v hv
      exact g_aload_n hv hd h
    · exact h.elim
  | .istore i, hd, ha, h => by
    simp only [stp] at h
    split at h
    · exact g_istore (of_decide_eq_true ha) hd h
    · exact h.elim
  | .istore_n i, hd, ha, h => by
    simp only [stp] at h
    split at h
    · exact g_istore_n (of_decide_eq_true ha) hd h
    · exact h.elim
  | .lstore i, hd, ha, h => by
    simp only [stp] at h
    split at h
    · exact g_lstore (of_decide_eq_true ha) hd h
    · exact h.elim
  | .lstore_n i, hd, ha, h => by
    simp only [stp] at h
    split at h
    · exact g_lstore_n (of_decide_eq_true ha) hd h
    · exact h.elim
  | .astore i, hd, ha, h => by
    simp only [stp] at h
    split at h
    · exact g_astore (of_decide_eq_true ha) hd h
    · exact h.elim
  | .astore_n i, hd, ha, h => by
    simp only [stp] at h
    split at h
    · exact g_astore_n (of_decide_eq_true ha) hd h
    · exact h.elim
  | .iinc i n, hd, ha, h => by
    simp only [stp] at h
    split at h
    · rename_i v hv
      exact g_iinc (of_decide_eq_true ha) hv hd h
    · exact h.elim
  | .iadd, hd, ha, h => by
    simp only [stp] at h
    split at h
    · exact g_iadd hd h
    · exact h.elim
  | .isub, hd, ha, h => by
    simp only [stp] at h
    split at h
    · exact g_isub hd h
    · exact h.elim
  | .imul, hd, ha, h => by
    simp only [stp] at h
    split at h
    · exact g_imul hd h
    · exact h.elim
  | .iand, hd, ha, h => by
    simp only [stp] at h
    split at h
    · exact g_iand hd h
    · exact h.elim
  | .ior, hd, ha, h => by
    simp only [stp] at h
    split at h
    · exact g_ior hd h
    · exact h.elim
  | .ixor, hd, ha, h => by
    simp only [stp] at h
    split at h
    · exact g_ixor hd h
    · exact h.elim
  | .ishl, hd, ha, h => by
    simp only [stp] at h
    split at h
    · exact g_ishl hd h
    · exact h.elim
  | .ishr, hd, ha, h => by
    simp only [stp] at h
    split at h
    · exact g_ishr hd h
    · exact h.elim
  | .iushr, hd, ha, h => by
    simp only [stp] at h
    split at h
    · exact g_iushr hd h
    · exact h.elim
  | .ladd, hd, ha, h => by
    simp only [stp] at h
    split at h
    · exact g_ladd hd h
    · exact h.elim
  | .lsub, hd, ha, h => by
    simp only [stp] at h
    split at h
    · exact g_lsub hd h
    · exact h.elim
  | .lmul, hd, ha, h => by
    simp only [stp] at h
    split at h
    · exact g_lmul hd h
    · exact h.elim
  | .land, hd, ha, h => by
    simp only [stp] at h
    split at h
    · exact g_land hd h
    · exact h.elim
  | .lor, hd, ha, h => by
    simp only [stp] at h
    split at h
    · exact g_lor hd h
    · exact h.elim
  | .lshl, hd, ha, h => by
    simp only [stp] at h
    split at h
    · exact g_lshl hd h
    · exact h.elim
  | .lushr, hd, ha, h => by
    simp only [stp] at h
    split at h
    · exact g_lushr hd h
    · exact h.elim
  | .lcmp, hd, ha, h => by
    simp only [stp] at h
    split at h
    · exact g_lcmp hd h
    · exact h.elim
  | .i2l, hd, ha, h => by
    simp only [stp] at h
    split at h
    · exact g_i2l hd h
    · exact h.elim
  | .l2i, hd, ha, h => by
    simp only [stp] at h
    split at h
    · exact g_l2i hd h
    · exact h.elim
  | .i2b, hd, ha, h => by
    simp only [stp] at h
    split at h
    · exact g_i2b hd h
    · exact h.elim
  | .idiv, hd, ha, h => by
    simp only [stp] at h
    split at h
    · exact g_idiv h.1 hd h.2
    · exact h.elim
  | .irem, hd, ha, h => by
    simp only [stp] at h
    split at h
    · exact g_irem h.1 hd h.2
    · exact h.elim
  | .ldiv, hd, ha, h => by
    simp only [stp] at h
    split at h
    · exact g_ldiv h.1 hd h.2
    · exact h.elim
  | .lrem, hd, ha, h => by
    simp only [stp] at h
    split at h
    · exact g_lrem h.1 hd h.2
    · exact h.elim
  | .dup, hd, ha, h => by
    simp only [stp] at h
    split at h
    · exact g_dup rfl hd h
    · exact g_dup rfl hd h
    · exact h.elim
  | .dup2, hd, ha, h => by
    simp only [stp] at h
    split at h
    · exact g_dup2 rfl rfl hd h
    · exact h.elim
  | .pop, hd, ha, h => by
    simp only [stp] at h
    split at h
    · exact g_pop rfl hd h
    · exact g_pop rfl hd h
    · exact h.elim
  | .getstatic i, hd, ha, h => by
    simp only [auxI, Bool.and_eq_true, decide_eq_true_eq] at ha
    match x, ha with
    | 0, ha => exact g_gstat ha.1 (sg_in (mOwn M, i, y) (mem_of_con ha.2)) hd h
    | x + 1, ha => exact g_gstatN ha.1 (sn_in (mOwn M, i, y) (mem_of_con ha.2)) hd h
  | .getfield i, hd, ha, h => by
    simp only [auxI, Bool.and_eq_true] at ha
    obtain ⟨⟨h1, h2⟩, h3⟩ := ha
    simp only [stp] at h
    split at h
    · obtain ⟨ho, h⟩ := h
      split at h
      · exact g_geti (mem_of_con h1) (fldR_ok h2) (of_decide_eq_true h3) hd ho h
      · exact g_getl (mem_of_con h1) (fldR_ok h2) (of_decide_eq_true h3) hd ho h
      · rename_i n1 n2
        obtain ⟨a', hr, h⟩ := h
        refine g_getr (mem_of_con h1) (fldR_ok h2) ?_ hd ho hr h
        split at h3
        · exact absurd rfl n1
        · exact absurd rfl n2
        · exact of_decide_eq_true h3
    · exact h.elim
  | .putfield i, hd, ha, h => by
    simp only [auxI, Bool.and_eq_true] at ha
    obtain ⟨⟨h1, h2⟩, h3⟩ := ha
    simp only [stp] at h
    split at h
    · obtain ⟨ho, h⟩ := h
      split at h
      · exact g_puti (mem_of_con h1) (fldW_ok h2) hd (Or.inl (of_decide_eq_true h3)) ho h
      · exact g_puti (mem_of_con h1) (fldW_ok h2) hd (Or.inr ⟨of_decide_eq_true h3, h.1⟩) ho h.2
      · exact h.elim
    · obtain ⟨ho, e, hh⟩ := h
      subst e
      exact g_putl (mem_of_con h1) (fldW_ok h2) (of_decide_eq_true h3) hd ho hh
    · obtain ⟨ho, e, hh⟩ := h
      subst e
      exact g_putr (mem_of_con h1) (fldW_ok h2) (of_decide_eq_true h3) hd ho hh
    · exact h.elim
  | .iaload, hd, ha, h => by
    simp only [stp] at h
    split at h
    · exact g_iald hd h.1 h.2
    · exact h.elim
  | .baload, hd, ha, h => by
    simp only [stp] at h
    split at h
    · obtain ⟨h1, rfl | rfl, h2⟩ := h
      · exact g_bald hd h1 h2
      · exact g_zald hd h1 h2
    · exact h.elim
  | .caload, hd, ha, h => by
    simp only [stp] at h
    split at h
    · exact g_cald hd h.1 h.2
    · exact h.elim
  | .laload, hd, ha, h => by
    simp only [stp] at h
    split at h
    · exact g_lald hd h.1 h.2
    · exact h.elim
  | .aaload, hd, ha, h => by
    simp only [stp] at h
    split at h
    · obtain ⟨h1, a', hr, h2⟩ := h
      exact g_aald (of_decide_eq_true ha) hd h1 hr h2
    · exact h.elim
  | .iastore, hd, ha, h => by
    simp only [stp] at h
    split at h
    · exact g_iast hd h.1 h.2
    · exact h.elim
  | .bastore, hd, ha, h => by
    simp only [stp] at h
    split at h
    · obtain ⟨h1, h2⟩ := h
      split at h2
      · exact g_bast hd h1 h2
      · exact g_zast (Or.inr ⟨rfl, h2.1⟩) hd h1 h2.2
      · exact h2.elim
    · exact h.elim
  | .lastore, hd, ha, h => by
    simp only [stp] at h
    split at h
    · exact g_last hd h.1 h.2
    · exact h.elim
  | .arraylength, hd, ha, h => by
    simp only [stp] at h
    split at h
    · obtain ⟨n, h1, h2⟩ := h
      exact g_alen h1 hd h2
    · exact h.elim
theorem run_ok : ∀ (blk : List BI) (pc : Nat) (ls st : List Value) (μ : XM), okB M pc blk pc' = true → run blk ls st μ (fun ls' st' μ' => G Γ M d b Q pc' ls' st' μ') → G Γ M d b Q pc ls st μ
  | [], pc, ls, st, μ, hk, h => by
    have e : pc = pc' := of_decide_eq_true hk
    rw [e]
    exact h
  | e :: t, pc, ls, st, μ, hk, h => by
    unfold okB at hk
    simp only [Bool.and_eq_true, decide_eq_true_eq] at hk
    exact stp_ok e.1 e.2.1 e.2.2.1 e.2.2.2 hk.1.1 hk.1.2 (by
      have h2 : stp e.1 e.2.1 e.2.2.1 e.2.2.2 ls st μ (fun ls' st' μ' => run t ls' st' μ' (fun ls' st' μ' => G Γ M d b Q pc' ls' st' μ')) := h
      exact stp_mono (fun ls' st' μ' q => run_ok t _ ls' st' μ' hk.2 q) h2)
end GR
