/-! ARRAYS, STATICS, NEW CELLS -/
theorem fvl_sI_ne {Γ : XG} {μ : XM} {a k q : Nat} {v : Int32} (h : q ≠ a) (ty : FieldType) (j : Nat) : fvl Γ (sI μ a k v) q ty j = fvl Γ μ q ty j := by
  have e : xI (sI μ a k v) q j = xI μ q j := by show up2 _ _ _ _ _ _ = _; unfold up2; rw [if_neg h]; rfl
  unfold fvl
  rw [e]
  rfl
theorem fvl_sL_ne {Γ : XG} {μ : XM} {a k q : Nat} {v : Int64} (h : q ≠ a) (ty : FieldType) (j : Nat) : fvl Γ (sL μ a k v) q ty j = fvl Γ μ q ty j := by
  have e : xL (sL μ a k v) q j = xL μ q j := by show up2 _ _ _ _ _ _ = _; unfold up2; rw [if_neg h]; rfl
  unfold fvl
  rw [e]
  rfl
theorem fvl_sR_ne {Γ : XG} {μ : XM} {a k q : Nat} {v : Option Nat} (h : q ≠ a) (ty : FieldType) (j : Nat) : fvl Γ (sR μ a k v) q ty j = fvl Γ μ q ty j := by
  have e : xR (sR μ a k v) q j = xR μ q j := by show up2 _ _ _ _ _ _ = _; unfold up2; rw [if_neg h]; rfl
  unfold fvl
  rw [e]
  rfl
/-- 0 an int of some width, 1 a long, 2 a reference -/
def kdT (ty : FieldType) : Nat := match ty with
  | .long => 1
  | .object _ => 2
  | .array _ => 2
  | _ => 0
theorem fvl_kI {Γ : XG} {μ : XM} {k j : Nat} {ty : FieldType} (h : kdT ty = 0) : fvl Γ μ k ty j = .int (xI μ k j) := by
  cases ty <;> first | rfl | (simp [kdT] at h)
theorem fvl_kL {Γ : XG} {μ : XM} {k j : Nat} {ty : FieldType} (h : kdT ty = 1) : fvl Γ μ k ty j = .long (xL μ k j) := by
  cases ty <;> first | rfl | (simp [kdT] at h)
theorem fvl_kR {Γ : XG} {μ : XM} {k j : Nat} {ty : FieldType} (h : kdT ty = 2) : fvl Γ μ k ty j = tro Γ (xR μ k j) := by
  cases ty <;> first | rfl | (simp [kdT] at h)
theorem up2_at {α : Type} {f : Nat → Nat → α} {a k j : Nat} {v : α} : up2 f a k v a j = if j = k then v else f a j := by unfold up2; rw [if_pos rfl]
/-- a value that a field of this type takes as it is -/
def fitv (ty : FieldType) (v : Int32) : Prop := ty = .int ∨ (ty = .boolean ∧ (v = w 0 ∨ v = w 1))
theorem fitv_ok {ty : FieldType} {v : Int32} (h : fitv ty v) : narrow ty (.int v) = .int v ∧ fits ty (.int v) = true := by
  rcases h with rfl | ⟨rfl, rfl | rfl⟩
  · exact ⟨rfl, rfl⟩
  · exact ⟨by decide, by decide⟩
  · exact ⟨by decide, by decide⟩
section GH
variable {Γ : XG} {M : MM} {d : Nat} {b : Nat × Nat} {Q : Option Value → XM → Prop} {pc pc' : Nat} {ls st r : List Value} {μ : XM}
theorem g_geti {i a ci k : Nat} (hl : (mOwn M, i, ci, k) ∈ flT) (hk : ∀ r, clT[ci]? = some r → k < r.2.2) (hy : kdT (tyT ci k) = 0) (hd : decode (mC M) pc = .ok (.getfield i, 3)) (ho : ob μ a ci) (kk : G Γ M d b Q (pc + 3) ls (.int (xI μ a k) :: st) μ) : G Γ M d b Q pc ls (.ref a :: st) μ :=
  g_getX hl ho hk (fvl_kI hy) hd kk
theorem g_getl {i a ci k : Nat} (hl : (mOwn M, i, ci, k) ∈ flT) (hk : ∀ r, clT[ci]? = some r → k < r.2.2) (hy : kdT (tyT ci k) = 1) (hd : decode (mC M) pc = .ok (.getfield i, 3)) (ho : ob μ a ci) (kk : G Γ M d b Q (pc + 3) ls (.long (xL μ a k) :: st) μ) : G Γ M d b Q pc ls (.ref a :: st) μ :=
  g_getX hl ho hk (fvl_kL hy) hd kk
theorem g_getr {i a a' ci k : Nat} (hl : (mOwn M, i, ci, k) ∈ flT) (hk : ∀ r, clT[ci]? = some r → k < r.2.2) (hy : kdT (tyT ci k) = 2) (hd : decode (mC M) pc = .ok (.getfield i, 3)) (ho : ob μ a ci) (hr : xR μ a k = some a') (kk : G Γ M d b Q (pc + 3) ls (.ref a' :: st) μ) : G Γ M d b Q pc ls (.ref a :: st) μ :=
  g_getX hl ho hk (by rw [fvl_kR hy, hr]; rfl) hd kk
theorem new_i {a k j : Nat} {v : Int32} {ty : Nat → FieldType} (hy : kdT (ty k) = 0) (hap : ∀ q, kdT (ty q) = 0 ∨ xI μ a q = xI μ a q) : fvl Γ (sI μ a k v) a (ty j) j = if j = k then .int v else fvl Γ μ a (ty j) j := by
  by_cases e : j = k
  · rw [if_pos e, e, fvl_kI hy]
    show Value.int (up2 _ _ _ _ _ _) = _
    rw [up2_at, if_pos rfl]
  · rw [if_neg e]
    have h : xI (sI μ a k v) a j = xI μ a j := (up2_at).trans (if_neg e)
    unfold fvl
    rw [h]
    rfl
theorem g_puti {i a ci k : Nat} {v : Int32} (hl : (mOwn M, i, ci, k) ∈ flT) (hk : ∀ r, clT[ci]? = some r → k < r.2.2 ∧ (r.2.1 k).2.2.2 = false) (hd : decode (mC M) pc = .ok (.putfield i, 3)) (hf : fitv (tyT ci k) v) (ho : ob μ a ci) (kk : G Γ M d b Q (pc + 3) ls st (sI μ a k v)) : G Γ M d b Q pc ls (.int v :: .ref a :: st) μ :=
  have hy : kdT (tyT ci k) = 0 := by rcases hf with h | ⟨h, -⟩ <;> rw [h] <;> rfl
  g_putX (v := .int v) (μ' := sI μ a k v) hl ho hk (fitv_ok hf).1 (fitv_ok hf).2 rfl (fun _ h ty j => fvl_sI_ne h ty j) (fun j => new_i (ty := tyT ci) hy (fun _ => Or.inr rfl)) hd kk
theorem g_putl {i a ci k : Nat} {v : Int64} (hl : (mOwn M, i, ci, k) ∈ flT) (hk : ∀ r, clT[ci]? = some r → k < r.2.2 ∧ (r.2.1 k).2.2.2 = false) (hy : tyT ci k = .long) (hd : decode (mC M) pc = .ok (.putfield i, 3)) (ho : ob μ a ci) (kk : G Γ M d b Q (pc + 3) ls st (sL μ a k v)) : G Γ M d b Q pc ls (.long v :: .ref a :: st) μ :=
  g_putX (v := .long v) (μ' := sL μ a k v) hl ho hk (by rw [hy]; rfl) (by rw [hy]; rfl) rfl (fun _ h ty j => fvl_sL_ne h ty j) (fun j => by
    by_cases e : j = k
    · rw [if_pos e, e, hy]
      show Value.long (up2 _ _ _ _ _ _) = _
      rw [up2_at, if_pos rfl]
      rfl
    · rw [if_neg e]
      have h : xL (sL μ a k v) a j = xL μ a j := (up2_at).trans (if_neg e)
      unfold fvl
      rw [h]
      rfl) hd kk
theorem new_r {a k j : Nat} {v : Option Nat} {ty : Nat → FieldType} (hy : kdT (ty k) = 2) : fvl Γ (sR μ a k v) a (ty j) j = if j = k then tro Γ v else fvl Γ μ a (ty j) j := by
  by_cases e : j = k
  · rw [if_pos e, e, fvl_kR hy]
    show tro Γ (up2 _ _ _ _ _ _) = _
    rw [up2_at, if_pos rfl]
  · rw [if_neg e]
    have h : xR (sR μ a k v) a j = xR μ a j := (up2_at).trans (if_neg e)
    unfold fvl
    rw [h]
    rfl
theorem nar_r {ty : FieldType} (hy : kdT ty = 2) (x : Nat) : narrow ty (.ref x) = .ref x ∧ fits ty (.ref x) = true := by
  cases ty <;> first | exact ⟨rfl, rfl⟩ | (simp [kdT] at hy)
theorem g_putr {i a ci k v : Nat} (hl : (mOwn M, i, ci, k) ∈ flT) (hk : ∀ r, clT[ci]? = some r → k < r.2.2 ∧ (r.2.1 k).2.2.2 = false) (hy : kdT (tyT ci k) = 2) (hd : decode (mC M) pc = .ok (.putfield i, 3)) (ho : ob μ a ci) (kk : G Γ M d b Q (pc + 3) ls st (sR μ a k (some v))) : G Γ M d b Q pc ls (.ref v :: .ref a :: st) μ :=
  g_putX (v := .ref v) (μ' := sR μ a k (some v)) hl ho hk (nar_r hy _).1 (nar_r hy _).2 rfl (fun _ h ty j => fvl_sR_ne h ty j) (fun j => new_r (ty := tyT ci) hy) hd kk
theorem g_putrF {i a ci k v : Nat} (hl : (mOwn M, i, ci, k) ∈ flT) (hk : ∀ r, clT[ci]? = some r → k < r.2.2 ∧ (r.2.1 k).2.2.2 = true ∧ (r.2.1 k).1 = cnm (mOwn M)) (hini : (mY M).name = "<init>") (hy : kdT (tyT ci k) = 2) (hd : decode (mC M) pc = .ok (.putfield i, 3)) (ho : ob μ a ci) (kk : G Γ M d b Q (pc + 3) ls st (sR μ a k (some v))) : G Γ M d b Q pc ls (.ref v :: .ref a :: st) μ :=
  g_putF (v := .ref v) (μ' := sR μ a k (some v)) hl ho hk hini (nar_r hy _).1 (nar_r hy _).2 rfl (fun _ h ty j => fvl_sR_ne h ty j) (fun j => new_r (ty := tyT ci) hy) hd kk
/-! arrays -/
theorem shp_st : ∀ k, k < 32 → ∀ t n, shp k = some (.inr (t, n)) → t ≤ 3 := by
  intro k hk t n h
  have hb : (List.range 32).all (fun k => match shp k with | some (.inr (t, _)) => decide (t ≤ 3) | _ => true) = true := by decide +kernel
  have := List.all_eq_true.mp hb k (List.mem_range.mpr hk)
  rw [h] at this
  exact of_decide_eq_true this
theorem shp_ty : ∀ k t n, shp k = some (.inr (t, n)) → t < 9 ∧ n < 20000 := by
  intro k t n h
  have hb : (List.range 600).all (fun k => match shp k with | some (.inr (t, n)) => decide (t < 9 ∧ n < 20000) | _ => true) = true := by decide +kernel
  by_cases hk : k < 600
  · have := List.all_eq_true.mp hb k (List.mem_range.mpr hk)
    rw [h] at this
    exact of_decide_eq_true this
  · have : shp k = none := by
      unfold shp
      have h6 : 6 ≤ k / 100 := by omega
      generalize k / 100 = z at h6
      match z, h6 with
      | z + 6, _ => rfl
    rw [this] at h
    cases h
theorem aty_int {t : Nat} (h : t ≤ 3) : kdT (atyT t) = 0 := by
  match t, h with
  | 0, _ => rfl
  | 1, _ => rfl
  | 2, _ => rfl
  | 3, _ => rfl
theorem tysX_at {t : Nat} (h : t < 9) : (tysX Γ)[t]? = some (Γ.2.2.1 t, atyT t) := by
  unfold tysX
  rw [List.getElem?_map, List.getElem?_range h]
  rfl
/-- what is known of an array, ours or a static one -/
theorem ar.known {a t n : Nat} {p : Program} {R : Room} {s : State} {m : MethodId} {args : Array Value} {meth : Method} {c : Code} {H : Heap} {locs : List Loc} (ha : ar μ a t n) (F : FixX Γ M d p R s m args meth c) (hR : Rep Γ μ H) (hT : StX Γ μ s) (hS : va_S (gA Γ) s.heap H locs) :
    ∃ cell : Cell, H[gs Γ a]? = some cell ∧ s.isArrayOf cell (atyT t) ∧ cell.vm ≠ .unknown ∧ n ≤ cell.slots.size ∧ cell.slots.size.toInt32 = Int32.ofNat n ∧ ∀ j, j < n → cell.slots[j]? = some (fvl Γ μ a (atyT t) j) := by
  obtain ⟨ht, hn⟩ := shp_ty _ _ _ ha.1
  by_cases hi : 32 ≤ a
  · refine ⟨_, ha.cell hi hR, (F.2.2.2.2.2.2.2.2.1.2 t _ (tysX_at ht)).1 n _, by exact fun h => (by cases h), by rw [arrV_size]; exact Nat.le_refl _, by rw [arrV_size], fun j hj => arrV_read _ _ hj⟩
  · have hlt : a < 32 := by omega
    obtain ⟨cell, h1, h2, h3, h4, h5, h6, h7⟩ := hT.1 a t n hlt ha.1
    refine ⟨cell, by rw [hS.2.1 _ (Array.getElem?_eq_some_iff.mp h1).1 h7]; exact h1, h2, h3, h4, h5, fun j hj => ?_⟩
    rw [h6 j hj, fvl_kI (aty_int (shp_st a hlt t n ha.1))]
theorem in_cell {cell : Cell} {n : Nat} {i : Int32} (hin : vp_in i n) (hn : n ≤ cell.slots.size) : ¬ (i < 0 ∨ cell.slots.size ≤ i.toNatClampNeg) := by
  rintro (q | q)
  · exact hin (Or.inl q)
  · exact hin (Or.inr (Nat.le_trans hn q))
theorem in_lt {n : Nat} {i : Int32} (hin : vp_in i n) : i.toNatClampNeg < n := Nat.not_le.mp fun q => hin (Or.inr q)
theorem g_alen {a t n : Nat} (ha : ar μ a t n) (hd : decode (mC M) pc = .ok (.arraylength, 1)) (kk : G Γ M d b Q (pc + 1) ls (.int (w n) :: st) μ) : G Γ M d b Q pc ls (.ref a :: st) μ := by
  intro p e R s m args below meth c Z F RX H locs cells slots lsA hR hT hS hL hc hs
  obtain ⟨cell, h1, h2, -, -, h5, -⟩ := ha.known F hR hT hS
  exact W.alen F.1 F.2.1 h1 h2 (h5.trans rfl) rfl rfl hd (kk p e R s m args below meth c Z F RX H locs cells slots lsA hR hT hS hL hc hs)
theorem g_iald {a : Nat} {i : Int32} (hd : decode (mC M) pc = .ok (.iaload, 1)) (ha : inb μ 0 a i) (kk : G Γ M d b Q (pc + 1) ls (.int (xI μ a i.toNatClampNeg) :: st) μ) : G Γ M d b Q pc ls (.int i :: .ref a :: st) μ := by
  obtain ⟨n, ha, hin⟩ := ha
  intro p e R s m args below meth c Z F RX H locs cells slots lsA hR hT hS hL hc hs
  obtain ⟨cell, h1, h2, h3, h4, -, h6⟩ := ha.known F hR hT hS
  exact W.iald F.1 F.2.1 h1 h2 h3 (in_cell hin h4) (h6 _ (in_lt hin)) rfl rfl hd (kk p e R s m args below meth c Z F RX H locs cells slots lsA hR hT hS hL hc hs)
theorem g_bald {a : Nat} {i : Int32} (hd : decode (mC M) pc = .ok (.baload, 1)) (ha : inb μ 1 a i) (kk : G Γ M d b Q (pc + 1) ls (.int (xI μ a i.toNatClampNeg) :: st) μ) : G Γ M d b Q pc ls (.int i :: .ref a :: st) μ := by
  obtain ⟨n, ha, hin⟩ := ha
  intro p e R s m args below meth c Z F RX H locs cells slots lsA hR hT hS hL hc hs
  obtain ⟨cell, h1, h2, h3, h4, -, h6⟩ := ha.known F hR hT hS
  exact W.bald F.1 F.2.1 h1 h2 h3 (in_cell hin h4) (h6 _ (in_lt hin)) rfl rfl hd (kk p e R s m args below meth c Z F RX H locs cells slots lsA hR hT hS hL hc hs)
theorem g_zald {a : Nat} {i : Int32} (hd : decode (mC M) pc = .ok (.baload, 1)) (ha : inb μ 2 a i) (kk : G Γ M d b Q (pc + 1) ls (.int (xI μ a i.toNatClampNeg) :: st) μ) : G Γ M d b Q pc ls (.int i :: .ref a :: st) μ := by
  obtain ⟨n, ha, hin⟩ := ha
  intro p e R s m args below meth c Z F RX H locs cells slots lsA hR hT hS hL hc hs
  obtain ⟨cell, h1, h2, h3, h4, -, h6⟩ := ha.known F hR hT hS
  exact W.zald F.1 F.2.1 h1 h2 h3 (in_cell hin h4) (h6 _ (in_lt hin)) rfl rfl hd (kk p e R s m args below meth c Z F RX H locs cells slots lsA hR hT hS hL hc hs)
theorem g_cald {a : Nat} {i : Int32} (hd : decode (mC M) pc = .ok (.caload, 1)) (ha : inb μ 3 a i) (kk : G Γ M d b Q (pc + 1) ls (.int (xI μ a i.toNatClampNeg) :: st) μ) : G Γ M d b Q pc ls (.int i :: .ref a :: st) μ := by
  obtain ⟨n, ha, hin⟩ := ha
  intro p e R s m args below meth c Z F RX H locs cells slots lsA hR hT hS hL hc hs
  obtain ⟨cell, h1, h2, h3, h4, -, h6⟩ := ha.known F hR hT hS
  exact W.cald F.1 F.2.1 h1 h2 h3 (in_cell hin h4) (h6 _ (in_lt hin)) rfl rfl hd (kk p e R s m args below meth c Z F RX H locs cells slots lsA hR hT hS hL hc hs)
theorem g_lald {a : Nat} {i : Int32} (hd : decode (mC M) pc = .ok (.laload, 1)) (ha : inb μ 4 a i) (kk : G Γ M d b Q (pc + 1) ls (.long (xL μ a i.toNatClampNeg) :: st) μ) : G Γ M d b Q pc ls (.int i :: .ref a :: st) μ := by
  obtain ⟨n, ha, hin⟩ := ha
  intro p e R s m args below meth c Z F RX H locs cells slots lsA hR hT hS hL hc hs
  obtain ⟨cell, h1, h2, h3, h4, -, h6⟩ := ha.known F hR hT hS
  exact W.lald F.1 F.2.1 h1 h2 h3 (in_cell hin h4) (h6 _ (in_lt hin)) rfl rfl hd (kk p e R s m args below meth c Z F RX H locs cells slots lsA hR hT hS hL hc hs)
theorem aty_ref {t : Nat} (h : 5 ≤ t) : kdT (atyT t) = 2 ∧ (atyT t).isReference = true := by
  match t, h with
  | 5, _ => exact ⟨rfl, rfl⟩
  | 6, _ => exact ⟨rfl, rfl⟩
  | 7, _ => exact ⟨rfl, rfl⟩
  | t + 8, _ => exact ⟨rfl, rfl⟩
theorem g_aald {a a' t : Nat} {i : Int32} (ht : 5 ≤ t) (hd : decode (mC M) pc = .ok (.aaload, 1)) (ha : inb μ t a i) (hr : xR μ a i.toNatClampNeg = some a') (kk : G Γ M d b Q (pc + 1) ls (.ref a' :: st) μ) : G Γ M d b Q pc ls (.int i :: .ref a :: st) μ := by
  obtain ⟨n, ha, hin⟩ := ha
  intro p e R s m args below meth c Z F RX H locs cells slots lsA hR hT hS hL hc hs
  obtain ⟨cell, h1, h2, h3, h4, -, h6⟩ := ha.known F hR hT hS
  exact W.aald F.1 F.2.1 h1 h2 (aty_ref ht).2 h3 (in_cell hin h4) (v := .ref (gs Γ a')) (by rw [h6 _ (in_lt hin), fvl_kR (aty_ref ht).1, hr]; rfl) rfl rfl hd (kk p e R s m args below meth c Z F RX H locs cells slots lsA hR hT hS hL hc hs)
/-- a store into an array of ours -/
def inS (μ : XM) (t a : Nat) (i : Int32) : Prop := 32 ≤ a ∧ inb μ t a i
theorem st_cell {a t n k : Nat} {v : Value} {μ' : XM} {H H' : Heap} (ha : ar μ a t n) (hR : Rep Γ μ H) (hi : 32 ≤ a) (e1 : H'[gs Γ a]? = some ((arrV (Γ.2.2.1 t) n (fun j => fvl Γ μ a (atyT t) j)).setSlot k v)) (hnew : ∀ j, fvl Γ μ' a (atyT t) j = if j = k then v else fvl Γ μ a (atyT t) j) : cOK Γ μ' a H' := by
  unfold cOK
  rw [ha.1]
  show H'[gs Γ a]? = _
  rw [e1, arrV_store]
  congr 2
  funext j
  exact (hnew j).symm
theorem g_iast {a : Nat} {i v : Int32} (hd : decode (mC M) pc = .ok (.iastore, 1)) (ha : inS μ 0 a i) (kk : G Γ M d b Q (pc + 1) ls st (sI μ a i.toNatClampNeg v)) : G Γ M d b Q pc ls (.int v :: .int i :: .ref a :: st) μ := by
  obtain ⟨hi, n, ha, hin⟩ := ha
  intro p e R s m args below meth c Z F RX H locs cells slots lsA hR hT hS hL hc hs
  refine W.iast F.1 F.2.1 (ha.cell hi hR) ((F.2.2.2.2.2.2.2.2.1.2 0 _ (tysX_at (by decide))).1 n _) (fun h => by cases h) (in_cell hin (by rw [arrV_size]; exact Nat.le_refl _)) rfl rfl hd fun H' e1 e2 e3 => ?_
  exact kk p e R s m args below meth c Z F RX H' _ cells slots lsA (hR.upd e2 e3 rfl hi (fun _ h ty j => fvl_sI_ne h ty j) (st_cell ha hR hi e1 (fun j => new_i (ty := fun _ => .int) rfl (fun _ => Or.inr rfl)))) (hT.upd (fun q hq j => by
    have := fvl_sI_ne (Γ := Γ) (μ := μ) (a := a) (k := i.toNatClampNeg) (v := v) (show q ≠ a by omega) .int j
    simpa [fvl] using this)) (hS.put e2 e3 (gs_A hi)) hL hc hs
theorem g_bast {a : Nat} {i v : Int32} (hd : decode (mC M) pc = .ok (.bastore, 1)) (ha : inS μ 1 a i) (kk : G Γ M d b Q (pc + 1) ls st (sI μ a i.toNatClampNeg v.toInt8.toInt32)) : G Γ M d b Q pc ls (.int v :: .int i :: .ref a :: st) μ := by
  obtain ⟨hi, n, ha, hin⟩ := ha
  intro p e R s m args below meth c Z F RX H locs cells slots lsA hR hT hS hL hc hs
  refine W.bast F.1 F.2.1 (ha.cell hi hR) ((F.2.2.2.2.2.2.2.2.1.2 1 _ (tysX_at (by decide))).1 n _) (fun h => by cases h) (in_cell hin (by rw [arrV_size]; exact Nat.le_refl _)) rfl rfl hd fun H' e1 e2 e3 => ?_
  exact kk p e R s m args below meth c Z F RX H' _ cells slots lsA (hR.upd e2 e3 rfl hi (fun _ h ty j => fvl_sI_ne h ty j) (st_cell ha hR hi e1 (fun j => new_i (ty := fun _ => .byte) rfl (fun _ => Or.inr rfl)))) (hT.upd (fun q hq j => by
    have := fvl_sI_ne (Γ := Γ) (μ := μ) (a := a) (k := i.toNatClampNeg) (v := v.toInt8.toInt32) (show q ≠ a by omega) .int j
    simpa [fvl] using this)) (hS.put e2 e3 (gs_A hi)) hL hc hs
theorem g_zast {a : Nat} {i v : Int32} (hf : fitv .boolean v) (hd : decode (mC M) pc = .ok (.bastore, 1)) (ha : inS μ 2 a i) (kk : G Γ M d b Q (pc + 1) ls st (sI μ a i.toNatClampNeg v)) : G Γ M d b Q pc ls (.int v :: .int i :: .ref a :: st) μ := by
  obtain ⟨hi, n, ha, hin⟩ := ha
  intro p e R s m args below meth c Z F RX H locs cells slots lsA hR hT hS hL hc hs
  refine W.zast F.1 F.2.1 (ha.cell hi hR) ((F.2.2.2.2.2.2.2.2.1.2 2 _ (tysX_at (by decide))).1 n _) (fun h => by cases h) (in_cell hin (by rw [arrV_size]; exact Nat.le_refl _)) rfl rfl hd fun H' e1 e2 e3 => ?_
  rw [(fitv_ok hf).1] at e1
  exact kk p e R s m args below meth c Z F RX H' _ cells slots lsA (hR.upd e2 e3 rfl hi (fun _ h ty j => fvl_sI_ne h ty j) (st_cell ha hR hi e1 (fun j => new_i (ty := fun _ => .boolean) rfl (fun _ => Or.inr rfl)))) (hT.upd (fun q hq j => by
    have := fvl_sI_ne (Γ := Γ) (μ := μ) (a := a) (k := i.toNatClampNeg) (v := v) (show q ≠ a by omega) .int j
    simpa [fvl] using this)) (hS.put e2 e3 (gs_A hi)) hL hc hs
theorem g_last {a : Nat} {i : Int32} {v : Int64} (hd : decode (mC M) pc = .ok (.lastore, 1)) (ha : inS μ 4 a i) (kk : G Γ M d b Q (pc + 1) ls st (sL μ a i.toNatClampNeg v)) : G Γ M d b Q pc ls (.long v :: .int i :: .ref a :: st) μ := by
  obtain ⟨hi, n, ha, hin⟩ := ha
  intro p e R s m args below meth c Z F RX H locs cells slots lsA hR hT hS hL hc hs
  refine W.last F.1 F.2.1 (ha.cell hi hR) ((F.2.2.2.2.2.2.2.2.1.2 4 _ (tysX_at (by decide))).1 n _) (fun h => by cases h) (in_cell hin (by rw [arrV_size]; exact Nat.le_refl _)) rfl rfl hd fun H' e1 e2 e3 => ?_
  exact kk p e R s m args below meth c Z F RX H' _ cells slots lsA (hR.upd e2 e3 rfl hi (fun _ h ty j => fvl_sL_ne h ty j) (st_cell ha hR hi e1 (fun j => by
    show Value.long (up2 _ _ _ _ _ _) = _
    rw [up2_at]
    by_cases e : j = i.toNatClampNeg
    · rw [if_pos e, if_pos e]
    · rw [if_neg e, if_neg e]; rfl))) (hT.upd (fun q hq j => rfl)) (hS.put e2 e3 (gs_A hi)) hL hc hs
end GH
