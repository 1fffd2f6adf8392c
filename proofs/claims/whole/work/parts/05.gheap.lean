/-! BRANCHES, RETURNS, THE HEAP -/
section GB
variable {Γ : XG} {M : MM} {d : Nat} {b : Nat × Nat} {Q : Option Value → XM → Prop} {pc pc' : Nat} {ls st r : List Value} {μ : XM}
/-- a branch -/
theorem g_br {A : Prop} {st0 : List Value} {tgt nx : Nat} (h : ∀ (p : Program) (e : Env) (R : Room) (s : State) (m : MethodId) (args : Array Value) (below : List Frame) (meth : Method) (c : Code) (Z : State → Prop) (H : Heap) (locs : List Loc) (cells slots : Nat) (lsA : Array Slot), FixX Γ M d p R s m args meth c →
      (A → W p Γ.1 e R s m args below meth c H locs cells slots Z (F0 m tgt lsA (st.map (tr Γ)))) → (¬ A → W p Γ.1 e R s m args below meth c H locs cells slots Z (F0 m nx lsA (st.map (tr Γ)))) → W p Γ.1 e R s m args below meth c H locs cells slots Z (F0 m pc lsA (st0.map (tr Γ))))
    (kt : A → G Γ M d b Q tgt ls st μ) (kf : ¬ A → G Γ M d b Q nx ls st μ) : G Γ M d b Q pc ls st0 μ := by
  intro p e R s m args below meth c Z F RX H locs cells slots lsA hR hT hS hL hc hs
  exact h p e R s m args below meth c Z H locs cells slots lsA F (fun a => kt a p e R s m args below meth c Z F RX H locs cells slots lsA hR hT hS hL hc hs) (fun a => kf a p e R s m args below meth c Z F RX H locs cells slots lsA hR hT hS hL hc hs)
theorem g_icmp_eq {x y : Int32} {off : Int} (ht : (pc : Int) + off = (pc' : Int)) (hd : decode (mC M) pc = .ok (.if_icmp .eq off, 3)) (kt : x = y → G Γ M d b Q pc' ls st μ) (kf : ¬ x = y → G Γ M d b Q (pc + 3) ls st μ) : G Γ M d b Q pc ls (.int y :: .int x :: st) μ :=
  g_br (fun _ _ _ _ _ _ _ _ _ _ _ _ _ _ _ F k1 k2 => lv_icmp_eq F.1 F.2.1 hd ht k1 k2) kt kf
theorem g_icmp_ne {x y : Int32} {off : Int} (ht : (pc : Int) + off = (pc' : Int)) (hd : decode (mC M) pc = .ok (.if_icmp .ne off, 3)) (kt : ¬ x = y → G Γ M d b Q pc' ls st μ) (kf : x = y → G Γ M d b Q (pc + 3) ls st μ) : G Γ M d b Q pc ls (.int y :: .int x :: st) μ :=
  g_br (fun _ _ _ _ _ _ _ _ _ _ _ _ _ _ _ F k1 k2 => lv_icmp_ne F.1 F.2.1 hd ht k1 (fun h => k2 (fun g => g h))) kt (fun h => kf (Classical.byContradiction h))
theorem g_icmp_lt {x y : Int32} {off : Int} (ht : (pc : Int) + off = (pc' : Int)) (hd : decode (mC M) pc = .ok (.if_icmp .lt off, 3)) (kt : x < y → G Γ M d b Q pc' ls st μ) (kf : ¬ x < y → G Γ M d b Q (pc + 3) ls st μ) : G Γ M d b Q pc ls (.int y :: .int x :: st) μ :=
  g_br (fun _ _ _ _ _ _ _ _ _ _ _ _ _ _ _ F k1 k2 => lv_icmp_lt F.1 F.2.1 hd ht k1 k2) kt kf
theorem g_icmp_ge {x y : Int32} {off : Int} (ht : (pc : Int) + off = (pc' : Int)) (hd : decode (mC M) pc = .ok (.if_icmp .ge off, 3)) (kt : ¬ x < y → G Γ M d b Q pc' ls st μ) (kf : x < y → G Γ M d b Q (pc + 3) ls st μ) : G Γ M d b Q pc ls (.int y :: .int x :: st) μ :=
  g_br (fun _ _ _ _ _ _ _ _ _ _ _ _ _ _ _ F k1 k2 => lv_icmp_ge F.1 F.2.1 hd ht k1 k2) (fun h => kt (Int32.not_lt.mpr h)) (fun h => kf (Int32.not_le.mp h))
theorem g_icmp_gt {x y : Int32} {off : Int} (ht : (pc : Int) + off = (pc' : Int)) (hd : decode (mC M) pc = .ok (.if_icmp .gt off, 3)) (kt : y < x → G Γ M d b Q pc' ls st μ) (kf : ¬ y < x → G Γ M d b Q (pc + 3) ls st μ) : G Γ M d b Q pc ls (.int y :: .int x :: st) μ :=
  g_br (fun _ _ _ _ _ _ _ _ _ _ _ _ _ _ _ F k1 k2 => lv_icmp_gt F.1 F.2.1 hd ht k1 k2) kt kf
theorem g_icmp_le {x y : Int32} {off : Int} (ht : (pc : Int) + off = (pc' : Int)) (hd : decode (mC M) pc = .ok (.if_icmp .le off, 3)) (kt : ¬ y < x → G Γ M d b Q pc' ls st μ) (kf : y < x → G Γ M d b Q (pc + 3) ls st μ) : G Γ M d b Q pc ls (.int y :: .int x :: st) μ :=
  g_br (fun _ _ _ _ _ _ _ _ _ _ _ _ _ _ _ F k1 k2 => lv_icmp_le F.1 F.2.1 hd ht k1 k2) (fun h => kt (Int32.not_lt.mpr h)) (fun h => kf (Int32.not_le.mp h))
theorem g_if_eq {x : Int32} {off : Int} (ht : (pc : Int) + off = (pc' : Int)) (hd : decode (mC M) pc = .ok (.ifCond .eq off, 3)) (kt : x = 0 → G Γ M d b Q pc' ls st μ) (kf : ¬ x = 0 → G Γ M d b Q (pc + 3) ls st μ) : G Γ M d b Q pc ls (.int x :: st) μ :=
  g_br (fun _ _ _ _ _ _ _ _ _ _ _ _ _ _ _ F k1 k2 => lv_if_eq F.1 F.2.1 hd ht k1 k2) kt kf
theorem g_if_ne {x : Int32} {off : Int} (ht : (pc : Int) + off = (pc' : Int)) (hd : decode (mC M) pc = .ok (.ifCond .ne off, 3)) (kt : ¬ x = 0 → G Γ M d b Q pc' ls st μ) (kf : x = 0 → G Γ M d b Q (pc + 3) ls st μ) : G Γ M d b Q pc ls (.int x :: st) μ :=
  g_br (fun _ _ _ _ _ _ _ _ _ _ _ _ _ _ _ F k1 k2 => lv_if_ne F.1 F.2.1 hd ht k1 (fun h => k2 (fun g => g h))) kt (fun h => kf (Classical.byContradiction h))
theorem g_if_lt {x : Int32} {off : Int} (ht : (pc : Int) + off = (pc' : Int)) (hd : decode (mC M) pc = .ok (.ifCond .lt off, 3)) (kt : x < 0 → G Γ M d b Q pc' ls st μ) (kf : ¬ x < 0 → G Γ M d b Q (pc + 3) ls st μ) : G Γ M d b Q pc ls (.int x :: st) μ :=
  g_br (fun _ _ _ _ _ _ _ _ _ _ _ _ _ _ _ F k1 k2 => lv_if_lt F.1 F.2.1 hd ht k1 k2) kt kf
theorem g_if_ge {x : Int32} {off : Int} (ht : (pc : Int) + off = (pc' : Int)) (hd : decode (mC M) pc = .ok (.ifCond .ge off, 3)) (kt : ¬ x < 0 → G Γ M d b Q pc' ls st μ) (kf : x < 0 → G Γ M d b Q (pc + 3) ls st μ) : G Γ M d b Q pc ls (.int x :: st) μ :=
  g_br (fun _ _ _ _ _ _ _ _ _ _ _ _ _ _ _ F k1 k2 => lv_if_ge F.1 F.2.1 hd ht k1 k2) (fun h => kt (Int32.not_lt.mpr h)) (fun h => kf (Int32.not_le.mp h))
theorem g_if_gt {x : Int32} {off : Int} (ht : (pc : Int) + off = (pc' : Int)) (hd : decode (mC M) pc = .ok (.ifCond .gt off, 3)) (kt : 0 < x → G Γ M d b Q pc' ls st μ) (kf : ¬ 0 < x → G Γ M d b Q (pc + 3) ls st μ) : G Γ M d b Q pc ls (.int x :: st) μ :=
  g_br (fun _ _ _ _ _ _ _ _ _ _ _ _ _ _ _ F k1 k2 => lv_if_gt F.1 F.2.1 hd ht k1 k2) kt kf
theorem g_if_le {x : Int32} {off : Int} (ht : (pc : Int) + off = (pc' : Int)) (hd : decode (mC M) pc = .ok (.ifCond .le off, 3)) (kt : ¬ 0 < x → G Γ M d b Q pc' ls st μ) (kf : 0 < x → G Γ M d b Q (pc + 3) ls st μ) : G Γ M d b Q pc ls (.int x :: st) μ :=
  g_br (fun _ _ _ _ _ _ _ _ _ _ _ _ _ _ _ F k1 k2 => lv_if_le F.1 F.2.1 hd ht k1 k2) (fun h => kt (Int32.not_lt.mpr h)) (fun h => kf (Int32.not_le.mp h))
/-- a switch: outside its table -/
theorem g_swOut {x : Int32} {df lo hi : Int} {offs : Array Int} {len : Nat} (hd : decode (mC M) pc = .ok (.tableswitch df lo hi offs, len)) (h : x.toInt < lo ∨ hi < x.toInt) (ht : (pc : Int) + df = (pc' : Int)) (k : G Γ M d b Q pc' ls st μ) : G Γ M d b Q pc ls (.int x :: st) μ :=
  g_lift (fun _ _ _ _ _ _ _ _ _ _ _ _ _ _ _ F _ k => lv_tableOut F.1 F.2.1 hd h ht k) k
theorem g_swIn {x : Int32} {df lo hi off : Int} {offs : Array Int} {len : Nat} (hd : decode (mC M) pc = .ok (.tableswitch df lo hi offs, len)) (h1 : ¬ x.toInt < lo) (h2 : ¬ hi < x.toInt) (ho : offs[(x.toInt - lo).toNat]? = some off) (ht : (pc : Int) + off = (pc' : Int)) (k : G Γ M d b Q pc' ls st μ) : G Γ M d b Q pc ls (.int x :: st) μ :=
  g_lift (fun _ _ _ _ _ _ _ _ _ _ _ _ _ _ _ F _ k => lv_tableIn F.1 F.2.1 hd h1 h2 ho ht k) k
theorem g_ret {v : Option Value} {ins : Instr} (hd : decode (mC M) pc = .ok (ins, 1)) (hv : rOK (mT M) ins v) (hq : Q v μ) : G Γ M d b Q pc ls v.toList μ := by
  intro p e R s m args below meth c Z F RX H locs cells slots lsA hR hT hS hL hc hs
  have h := RX v μ H locs cells slots lsA pc ins hq hR hT hS (by omega) (by omega) hd hv
  cases v with
  | none => exact h
  | some v => exact h
/-! the heap -/
theorem gs_inj {j k : Nat} (hj : 32 ≤ j) (hk : 32 ≤ k) (h : gs Γ j = gs Γ k) : j = k := by
  unfold gs at h
  rw [if_neg (by omega), if_neg (by omega)] at h
  omega
theorem gs_A {k : Nat} (hk : 32 ≤ k) : gA Γ (gs Γ k) := by
  unfold gs gA
  rw [if_neg (by omega)]
  omega
theorem Rep.upd {μ' : XM} {H H' : Heap} {a : Nat} (hR : Rep Γ μ H) (hsz : H'.size = H.size) (hoth : ∀ q, q ≠ gs Γ a → H'[q]? = H[q]?) (hN : xN μ' = xN μ) (ha : 32 ≤ a) (hsame : ∀ k, k ≠ a → ∀ ty j, fvl Γ μ' k ty j = fvl Γ μ k ty j) (hcell : cOK Γ μ' a H') : Rep Γ μ' H' := by
  refine ⟨by rw [hsz, hN]; exact hR.1, by rw [hN]; exact hR.2.1, fun k hk hk2 => ?_⟩
  by_cases e : k = a
  · rw [e]; exact hcell
  · have h := hR.2.2 k hk (by rw [← hN]; exact hk2)
    have hg : H'[gs Γ k]? = H[gs Γ k]? := hoth _ (fun q => e (gs_inj hk ha q))
    unfold cOK at h ⊢
    split at h
    · trivial
    · obtain ⟨r, h1, h2⟩ := h
      exact ⟨r, h1, (h2.kept hg).to (fun j _ => (hsame k e _ _).symm)⟩
    · rw [hg, h]
      congr 2
      funext j
      exact (hsame k e _ _).symm
theorem StX.upd {μ' : XM} {U : State} (h : StX Γ μ U) (hs : ∀ k, k < 32 → ∀ j, xI μ' k j = xI μ k j) : StX Γ μ' U := by
  have e : ∀ k, k < 32 → (fun j => Value.int (xI μ' k j)) = (fun j => Value.int (xI μ k j)) := fun k hk => funext fun j => by rw [hs k hk j]
  refine ⟨fun k t n hk hsh => ?_, h.2.1, h.2.2.1, h.2.2.2.1, h.2.2.2.2.1, h.2.2.2.2.2.1, ?_, h.2.2.2.2.2.2.2⟩
  · rw [e k hk]
    exact h.1 k t n hk hsh
  · rw [e 31 (by decide)]
    exact h.2.2.2.2.2.2.1
/-- a cell of ours that is an object of class ci -/
def ob (μ : XM) (a ci : Nat) : Prop := shp a = some (.inl ci) ∧ a < xN μ
/-- an array of type t and length n, ours or a static one -/
def ar (μ : XM) (a t n : Nat) : Prop := shp a = some (.inr (t, n)) ∧ a < xN μ
def inb (μ : XM) (t a : Nat) (i : Int32) : Prop := ∃ n, ar μ a t n ∧ vp_in i n
theorem shp_lo : ∀ k, k < 32 → ∀ ci, shp k ≠ some (.inl ci) := by
  intro k hk ci h
  have hb : (List.range 32).all (fun k => match shp k with | some (.inl _) => false | _ => true) = true := by decide +kernel
  have := List.all_eq_true.mp hb k (List.mem_range.mpr hk)
  rw [h] at this
  cases this
theorem ob.hi {a ci : Nat} (h : ob μ a ci) : 32 ≤ a := Nat.not_lt.mp fun q => shp_lo a q ci h.1
theorem ob.cell {a ci : Nat} {H : Heap} (h : ob μ a ci) (hR : Rep Γ μ H) : ∃ r : vw_C, clT[ci]? = some r ∧ t_OB (gs Γ a) (Γ.2.1.1 ci) r.2.2 (Γ.2.1.2 ci) H (fun j => fvl Γ μ a (tyT ci j) j) := by
  have q := hR.2.2 a h.hi h.2
  unfold cOK at q
  rw [h.1] at q
  exact q
theorem ar.cell {a t n : Nat} {H : Heap} (h : ar μ a t n) (hi : 32 ≤ a) (hR : Rep Γ μ H) : H[gs Γ a]? = some (arrV (Γ.2.2.1 t) n (fun j => fvl Γ μ a (atyT t) j)) := by
  have q := hR.2.2 a hi h.2
  unfold cOK at q
  rw [h.1] at q
  exact q
theorem flW_at {e : Nat × Nat × Nat × Nat} {r : vw_C} (h : clT[e.2.2.1]? = some r) : flW e = .fieldLink (cnm e.1) e.2.1 (r.2.1 e.2.2.2).1 (r.2.1 e.2.2.2).2.1 (r.2.1 e.2.2.2).2.2.1 := by
  unfold flW; rw [h]
theorem g_getX {i a ci k : Nat} {v : Value} (hl : (mOwn M, i, ci, k) ∈ flT) (ho : ob μ a ci) (hk : ∀ r, clT[ci]? = some r → k < r.2.2) (hv : fvl Γ μ a (tyT ci k) k = tr Γ v) (hd : decode (mC M) pc = .ok (.getfield i, 3)) (kk : G Γ M d b Q (pc + 3) ls (v :: st) μ) : G Γ M d b Q pc ls (.ref a :: st) μ := by
  intro p e R s m args below meth c Z F RX H locs cells slots lsA hR hT hS hL hc hs
  obtain ⟨r, hr, cell, q1, q2, q3, q4⟩ := ho.cell hR
  have hlink := F.2.2.2.2.2.1 _ (flT_inG _ hl)
  rw [flW_at hr] at hlink
  obtain ⟨hSl, hfc, kC, hkC, hkind⟩ := F.2.2.2.2.2.2.2.2.1.1 ci _ hr
  obtain ⟨cf, kf, fi, f, hi, hsl⟩ := hSl k (hk r hr)
  refine W.getf F.1 F.2.1 F.2.2.2.2.1 hlink hi (u_facts hfc hkC (u_lays F.2.2.2.2.2.1 (lyT_inG _ (List.mem_of_getElem? hr)) (hk r hr)) hi).1 q1 (by rw [q3]; exact fun h => by cases h) (v := tr Γ v) ?_ rfl rfl hd
    (kk p e R s m args below meth c Z F RX H locs cells slots lsA hR hT hS hL hc hs)
  rw [hsl, q4 k (hk r hr)]
  exact congrArg some hv
theorem xap {p : Program} {R : Room} {s : State} {m : MethodId} {args : Array Value} {meth : Method} {c : Code} (F : FixX Γ M d p R s m args meth c) {ci : Nat} {r : vw_C} (hr : clT[ci]? = some r) : ∀ x y, x < r.2.2 → y < r.2.2 → x ≠ y → (Γ.2.1.2 ci) x ≠ (Γ.2.1.2 ci) y :=
  va_apart (own := "") F.2.2.2.2.2.1 (lyT_inG _ (List.mem_of_getElem? hr)) (tyT ci) (pT ci r hr) (nT ci r hr) F.2.2.2.2.2.2.2.2.1 hr
/-- a store into a field: μ' is μ but there -/
theorem g_putX {i a ci k : Nat} {v : Value} {μ' : XM} (hl : (mOwn M, i, ci, k) ∈ flT) (ho : ob μ a ci) (hk : ∀ r, clT[ci]? = some r → k < r.2.2 ∧ (r.2.1 k).2.2.2 = false) (hn : narrow (tyT ci k) (tr Γ v) = tr Γ v) (hfit : fits (tyT ci k) (tr Γ v) = true)
    (hN : xN μ' = xN μ) (hsame : ∀ q, q ≠ a → ∀ ty j, fvl Γ μ' q ty j = fvl Γ μ q ty j) (hnew : ∀ j, fvl Γ μ' a (tyT ci j) j = if j = k then tr Γ v else fvl Γ μ a (tyT ci j) j)
    (hd : decode (mC M) pc = .ok (.putfield i, 3)) (kk : G Γ M d b Q (pc + 3) ls st μ') : G Γ M d b Q pc ls (v :: .ref a :: st) μ := by
  intro p e R s m args below meth c Z F RX H locs cells slots lsA hR hT hS hL hc hs
  obtain ⟨r, hr, cell, q1, q2, q3, q4⟩ := ho.cell hR
  have hlink := F.2.2.2.2.2.1 _ (flT_inG _ hl)
  rw [flW_at hr] at hlink
  have hap := xap F hr
  obtain ⟨hSl, hfc, kC, hkC, hkind⟩ := F.2.2.2.2.2.2.2.2.1.1 ci _ hr
  obtain ⟨cf, kf, fi, f, hi, hsl⟩ := hSl k (hk r hr).1
  have hin := lyT_inG _ (List.mem_of_getElem? hr)
  have hlay := F.2.2.2.2.2.1 _ (hin _ (u_in_lay (hk r hr).1))
  unfold u_lay at hlay
  rw [if_neg (by rw [(hk r hr).2]; decide)] at hlay
  have hst := (u_facts hfc hkC (u_lays F.2.2.2.2.2.1 hin (hk r hr).1) hi).1
  have h6 := u_store hfc hkC hkind hlay hi (pT ci r hr k (hk r hr).1) hn hfit
  refine W.putK F.1 F.2.1 (f := f) ⟨F.2.2.2.2.1, hlink, ⟨_, _, _, hi⟩, hst⟩ (by rw [q2]; exact h6) q1 q3 (by rw [hsl]; exact k2_hasslot (q4 k (hk r hr).1)) rfl rfl hd fun H' e1 e2 e3 => ?_
  rw [hsl] at e1 ⊢
  have hcell : cOK Γ μ' a H' := by
    unfold cOK
    rw [ho.1]
    refine ⟨r, hr, _, e1, q2, q3, fun j hj => ?_⟩
    rw [t_set q4 hap (hk r hr).1 (tr Γ v) j hj]
    exact congrArg some (hnew j).symm
  exact kk p e R s m args below meth c Z F RX H' _ cells slots lsA (hR.upd e2 e3 hN ho.hi hsame hcell) (hT.upd (fun q hq j => by
    have := hsame q (by have := ho.hi; omega) .int j
    simpa [fvl] using this)) (hS.put e2 e3 (gs_A ho.hi)) hL hc hs
/-- the same into a final field, in a constructor of its own class -/
theorem g_putF {i a ci k : Nat} {v : Value} {μ' : XM} (hl : (mOwn M, i, ci, k) ∈ flT) (ho : ob μ a ci) (hk : ∀ r, clT[ci]? = some r → k < r.2.2 ∧ (r.2.1 k).2.2.2 = true ∧ (r.2.1 k).1 = cnm (mOwn M)) (hini : (mY M).name = "<init>") (hn : narrow (tyT ci k) (tr Γ v) = tr Γ v) (hfit : fits (tyT ci k) (tr Γ v) = true)
    (hN : xN μ' = xN μ) (hsame : ∀ q, q ≠ a → ∀ ty j, fvl Γ μ' q ty j = fvl Γ μ q ty j) (hnew : ∀ j, fvl Γ μ' a (tyT ci j) j = if j = k then tr Γ v else fvl Γ μ a (tyT ci j) j)
    (hd : decode (mC M) pc = .ok (.putfield i, 3)) (kk : G Γ M d b Q (pc + 3) ls st μ') : G Γ M d b Q pc ls (v :: .ref a :: st) μ := by
  intro p e R s m args below meth c Z F RX H locs cells slots lsA hR hT hS hL hc hs
  obtain ⟨r, hr, cell, q1, q2, q3, q4⟩ := ho.cell hR
  have hlink := F.2.2.2.2.2.1 _ (flT_inG _ hl)
  rw [flW_at hr] at hlink
  have hap := xap F hr
  obtain ⟨hSl, hfc, kC, hkC, hkind⟩ := F.2.2.2.2.2.2.2.2.1.1 ci _ hr
  obtain ⟨cf, kf, fi, f, hi, hsl⟩ := hSl k (hk r hr).1
  have hin := lyT_inG _ (List.mem_of_getElem? hr)
  have hlay := F.2.2.2.2.2.1 _ (hin _ (u_in_lay (hk r hr).1))
  unfold u_lay at hlay
  rw [if_pos (hk r hr).2.1] at hlay
  have hst := (u_facts hfc hkC (u_lays F.2.2.2.2.2.1 hin (hk r hr).1) hi).1
  have hcf : m.cls = cf := by
    obtain ⟨_, _, c', _, _, _, -, -, hf', -, -, -, hown2, -⟩ := Cond.laysFinal_spec hlay
    have e1 : c' = cf := by have := hi.symm.trans hf'; simp at this; exact this.1.symm
    rw [(hk r hr).2.2] at hown2
    rw [← e1]; exact Option.some.inj (F.2.2.2.2.1.symm.trans hown2)
  have h6 := u_fits hfc hkC hkind (Or.inr hlay) hi (pT ci r hr k (hk r hr).1) hn hfit
  refine W.putFinK F.1 F.2.1 F.2.2.2.2.1 hlink hi hst hcf (F.2.2.2.2.2.2.2.1.trans hini) (by rw [q2]; exact h6) q1 q3 (by rw [hsl]; exact k2_hasslot (q4 k (hk r hr).1)) rfl rfl hd fun H' e1 e2 e3 => ?_
  rw [hsl] at e1 ⊢
  have hcell : cOK Γ μ' a H' := by
    unfold cOK
    rw [ho.1]
    refine ⟨r, hr, _, e1, q2, q3, fun j hj => ?_⟩
    rw [t_set q4 hap (hk r hr).1 (tr Γ v) j hj]
    exact congrArg some (hnew j).symm
  exact kk p e R s m args below meth c Z F RX H' _ cells slots lsA (hR.upd e2 e3 hN ho.hi hsame hcell) (hT.upd (fun q hq j => by
    have := hsame q (by have := ho.hi; omega) .int j
    simpa [fvl] using this)) (hS.put e2 e3 (gs_A ho.hi)) hL hc hs
end GB
