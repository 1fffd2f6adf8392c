/-! RULES FOR WHAT MAKES CELLS -/
def nN (μ : XM) (k : Nat) : XM := (μ.1, μ.2.1, μ.2.2.1, k)
theorem xI_nN (μ : XM) (k : Nat) : xI (nN μ k) = xI μ := rfl
theorem xL_nN (μ : XM) (k : Nat) : xL (nN μ k) = xL μ := rfl
theorem xR_nN (μ : XM) (k : Nat) : xR (nN μ k) = xR μ := rfl
theorem xN_nN (μ : XM) (k : Nat) : xN (nN μ k) = k := rfl
/-- the cell is laid to none -/
def zc (μ : XM) (a : Nat) : Prop := ∀ j, xI μ a j = w 0 ∧ xL μ a j = wl 0 ∧ xR μ a j = none
theorem gs_N {Γ : XG} {μ : XM} {H : Heap} (hR : Rep Γ μ H) : H.size = gs Γ (xN μ) := by
  have := hR.1
  have h2 := hR.2.1
  unfold gs
  rw [if_neg (by omega)]
  exact this
theorem Rep.push {Γ : XG} {μ : XM} {H H' : Heap} (hR : Rep Γ μ H) (hsz : H'.size = H.size + 1) (hold : ∀ q, q < H.size → H'[q]? = H[q]?) (hcell : cOK Γ (nN μ (xN μ + 1)) (xN μ) H') : Rep Γ (nN μ (xN μ + 1)) H' := by
  obtain ⟨h1, h2, h3⟩ := hR
  refine ⟨by rw [hsz, h1, xN_nN]; omega, by rw [xN_nN]; omega, fun k hk hk2 => ?_⟩
  rw [xN_nN] at hk2
  by_cases e : k = xN μ
  · rw [e]; exact hcell
  · have h := h3 k hk (by omega)
    have hg : H'[gs Γ k]? = H[gs Γ k]? := hold _ (by unfold gs; rw [if_neg (by omega), h1]; omega)
    unfold cOK at h ⊢
    split at h
    · trivial
    · obtain ⟨r, q1, q2⟩ := h
      exact ⟨r, q1, q2.kept hg⟩
    · rw [hg]; exact h
theorem va_S_push {A : Nat → Prop} {H0 H H' : Heap} {locs : List Loc} (hS : va_S A H0 H locs) (hsz : H'.size = H.size + 1) (hold : ∀ q, q < H.size → H'[q]? = H[q]?) : va_S A H0 H' locs := ⟨by rw [hsz]; exact Nat.le_succ_of_le hS.1, fun x h1 h2 => (hold x (Nat.lt_of_lt_of_le h1 hS.1)).trans (hS.2.1 x h1 h2), hS.2.2⟩
def okD (ty : FieldType) : Bool := match ty with
  | .float => false
  | .double => false
  | _ => true
theorem dfl {Γ : XG} {μ : XM} {a j : Nat} {ty : FieldType} (h : okD ty = true) (hz : zc μ a) : defaultValue ty = fvl Γ μ a ty j := by
  obtain ⟨h1, h2, h3⟩ := hz j
  have w0' : w 0 = (0 : Int32) := by decide
  have wl0' : wl 0 = (0 : Int64) := by decide
  cases ty with
  | float => cases h
  | double => cases h
  | long => show Value.long 0 = .long (xL μ a j); rw [h2, wl0']
  | object C => show Value.null = tro Γ (xR μ a j); rw [h3]; rfl
  | array t => show Value.null = tro Γ (xR μ a j); rw [h3]; rfl
  | _ => show Value.int 0 = .int (xI μ a j); rw [h1, w0']
section GN
variable {Γ : XG} {M : MM} {d b1 b2 : Nat} {Q : Option Value → XM → Prop} {pc : Nat} {ls st : List Value} {μ : XM}
theorem g_objInit {b : Nat × Nat} {i a : Nat} (hl : Cond.methodLink (cnm (mOwn M)) i Lib.objectInit ∈ lwG) (hw : Cond.instanceMethod Lib.objectInit ∈ lwG ∧ Cond.code Lib.objectInit ⟨#[0xb1]⟩ 1 none ∈ lwG) (hst : (st.map fun v => v.category).sum ≤ 8) (hd : decode (mC M) pc = .ok (.invokespecial i, 3)) (kk : G Γ M (d + 1) b Q (pc + 3) ls st μ) : G Γ M (d + 1) b Q pc ls (.ref a :: st) μ := by
  intro p e R s m args below meth c Z F RX H locs cells slots lsA hR hT hS hL hc hs
  have h40 := F.2.2.2.2.2.2.2.2.2.2.2
  have h1 := F.2.2.2.2.2.2.2.2.2.2.1
  have e9 : ((st.map (tr Γ)).map fun v => v.category) = st.map fun v => v.category := by
    rw [List.map_map]; apply List.map_congr_left; intro v _; exact tr_cat Γ v
  exact W.objInit F.1 F.2.1 F.2.2.2.2.1 (F.2.2.2.2.2.1 _ hl) (F.2.2.2.2.2.1 _ hw.1) (F.2.2.2.2.2.1 _ hw.2) rfl (hL.1.trans F.2.2.2.1.symm) (show (F0 m pc lsA ((Value.ref a :: st).map (tr Γ))).stack = .ref (gs Γ a) :: st.map (tr Γ) from rfl) hd (by omega) (by rw [e9]; show 2 * 0 + _ + 12 ≤ _; omega)
    (kk p e R s m args below meth c Z F RX H locs cells slots lsA hR hT hS hL hc hs)
theorem g_new {i ci n : Nat} {C : String} {T : u_T} (hr : clT[ci]? = some (C, T, n)) (hcl : Cond.classLink (cnm (mOwn M)) i C ∈ lwG) (hin : Cond.instantiable C n ∈ lwG) (hini : Cond.initialized C ∈ lwG) (hok : ∀ j, j < n → okD (tyT ci j) = true) (hs : shp (xN μ) = some (.inl ci)) (hz : zc μ (xN μ)) (hd : decode (mC M) pc = .ok (.new i, 3)) (kk : G Γ M d (b1, b2) Q (pc + 3) ls (.ref (xN μ) :: st) (nN μ (xN μ + 1))) : G Γ M d (b1 + 1, b2 + n) Q pc ls st μ := by
  intro p e R s m args below meth c Z F RX H locs cells slots lsA hR hT hS hL hc hs'
  have hK := F.2.2.2.2.2.2.2.2.1.1 ci _ hr
  have hc' : cells + (b1 + 1) ≤ R.cells := hc
  have hs2 : slots + (b2 + n) ≤ R.slots := hs'
  refine W.newcK F.1 F.2.1 F.2.2.2.2.1 (F.2.2.2.2.2.1 _ hcl) (F.2.2.2.2.2.1 _ hin) (F.2.2.2.2.2.1 _ hini) rfl hd (by omega) (by omega) hK.2.1 (gs_N hR) fun H' kC hkC e1 z1 o1 => ?_
  have z1' : H'.size = H.size + 1 := by rw [z1, gs_N hR]
  have o1' : ∀ q, q < H.size → H'[q]? = H[q]? := fun q hq => o1 q (by rw [← gs_N hR]; exact hq)
  refine kk p e R s m args below meth c Z F RX H' locs (cells + 1) (slots + n) lsA (hR.push z1' o1' ?_) hT (va_S_push hS z1' o1') hL (by show cells + 1 + b1 ≤ _; omega) (by show slots + n + b2 ≤ _; omega)
  unfold cOK
  rw [hs]
  exact ⟨_, hr, (u_born (tyT ci) F.2.2.2.2.2.1 (lyT_inG _ (List.mem_of_getElem? hr)) hK hkC e1 (pT ci _ hr)).to (fun j hj => dfl (hok j hj) hz)⟩
theorem cb8 (atype : ArrayType) : componentBytes (newarray.typeOf atype) ≤ 8 := by cases atype <;> decide
theorem g_newa {atype : ArrayType} {t n : Nat} (hty : newarray.typeOf atype = atyT t) (ht : t ≤ 4) (harr : Cond.arrayClass (newarray.typeOf atype) ∈ lwG) (hs : shp (xN μ) = some (.inr (t, n))) (hz : zc μ (xN μ)) (hd : decode (mC M) pc = .ok (.newarray atype, 2)) (kk : G Γ M d (b1, b2) Q (pc + 2) ls (.ref (xN μ) :: st) (nN μ (xN μ + 1))) : G Γ M d (b1 + 1, b2 + n) Q pc ls (.int (w (n : Int)) :: st) μ := by
  intro p e R s m args below meth c Z F RX H locs cells slots lsA hR hT hS hL hc hs'
  have hsm := (shp_ty _ _ _ hs).2
  have hc' : cells + (b1 + 1) ≤ R.cells := hc
  have hs2 : slots + (b2 + n) ≤ R.slots := hs'
  have hb := cb8 atype
  have hb2 : n * componentBytes (newarray.typeOf atype) ≤ n * 8 := Nat.mul_le_mul_left n hb
  refine va_newaK F.1 F.2.1 (F.2.2.2.2.2.1 _ harr) rfl hd (n := w (n : Int)) (rest := st.map (tr Γ)) rfl (by rw [← w0, w_lt (by omega) (by omega) (by omega) (by omega)]; omega) (w_cln (by omega)) (by omega) (by omega) (by omega) (gs_N hR) fun H' cA e1 z1 o1 hA hNm => ?_
  have z1' : H'.size = H.size + 1 := by rw [z1, gs_N hR]
  have o1' : ∀ q, q < H.size → H'[q]? = H[q]? := fun q hq => o1 q (by rw [← gs_N hR]; exact hq)
  have hRA := (F.2.2.2.2.2.2.2.2.1.2 t _ (tysX_at (by omega))).2
  have ecA : cA = Γ.2.2.1 t := by
    have q : s.vm.findClass ("[" ++ (atyT t).toString) = some (Γ.2.2.1 t) := by
      match t, ht, hRA with
      | 0, _, h => exact h
      | 1, _, h => exact h
      | 2, _, h => exact h
      | 3, _, h => exact h
      | 4, _, h => exact h
    rw [← hty] at q
    exact Option.some.inj (hNm.symm.trans q)
  subst ecA
  refine kk p e R s m args below meth c Z F RX H' locs (cells + 1) (slots + n) lsA (hR.push z1' o1' ?_) hT (va_S_push hS z1' o1') hL (by show cells + 1 + b1 ≤ _; omega) (by show slots + n + b2 ≤ _; omega)
  unfold cOK
  rw [hs]
  show H'[gs Γ (xN μ)]? = some (arrV (Γ.2.2.1 t) n (fun j => fvl Γ (nN μ (xN μ + 1)) (xN μ) (atyT t) j))
  rw [e1]
  congr 2
  funext j
  rw [hty]
  refine dfl ?_ hz
  match t, ht with
  | 0, _ => rfl
  | 1, _ => rfl
  | 2, _ => rfl
  | 3, _ => rfl
  | 4, _ => rfl
theorem g_anew {i t n : Nat} {C : String} (hty : atyT t = .object C) (hcl : Cond.classLink (cnm (mOwn M)) i C ∈ lwG) (hov : FieldType.object C ∈ ovL) (hs : shp (xN μ) = some (.inr (t, n))) (hz : zc μ (xN μ)) (hd : decode (mC M) pc = .ok (.anewarray i, 3)) (kk : G Γ M d (b1, b2) Q (pc + 3) ls (.ref (xN μ) :: st) (nN μ (xN μ + 1))) : G Γ M d (b1 + 1, b2 + n) Q pc ls (.int (w (n : Int)) :: st) μ := by
  intro p e R s m args below meth c Z F RX H locs cells slots lsA hR hT hS hL hc hs'
  obtain ⟨ht, hsm⟩ := shp_ty _ _ _ hs
  have hc' : cells + (b1 + 1) ≤ R.cells := hc
  have hs2 : slots + (b2 + n) ≤ R.slots := hs'
  have en : (w (n : Int)).toNatClampNeg = n := w_cln (by omega)
  refine W.anew F.1 F.2.1 F.2.2.2.2.1 (F.2.2.2.2.2.1 _ hcl) (va_AO.use (hT.2.2.2.2.2.2.2.2.1 _ hov)) rfl hd (n := w (n : Int)) (rest := st.map (tr Γ)) rfl (by rw [← w0, w_lt (by omega) (by omega) (by omega) (by omega)]; omega) (by rw [en]; omega) (by omega) (by rw [en]; omega) fun cA kA comp f1 f2 f3 f4 => ?_
  rw [en]
  generalize hH1 : H.push ({ cls := cA, slots := Array.replicate n .null, vm := .none } : Cell) = H1
  have z1 : H1.size = H.size + 1 := by rw [← hH1, Array.size_push]
  have e1 : H1[H.size]? = some (arrV cA n (fun _ => .null)) := by rw [← hH1, Array.getElem?_push_size, ← arrV_new]
  have o1 : ∀ q : Nat, q < H.size → H1[q]? = H[q]? := fun q hq => by rw [← hH1, Array.getElem?_push, if_neg (Nat.ne_of_lt hq)]
  have hRA := (F.2.2.2.2.2.2.2.2.1.2 t _ (tysX_at ht)).2
  have hRA2 : va_RA s (Γ.2.2.1 t) (.object C) := by rw [← hty]; exact hRA
  obtain ⟨kA2, comp2, -, -, -, q4⟩ := hRA2
  have ecA : cA = Γ.2.2.1 t := Option.some.inj (f1.symm.trans q4)
  subst ecA
  rw [gs_N hR] at e1
  refine (?_ : W _ _ _ _ _ _ _ _ _ _ H1 _ _ _ _ (F0 m (pc + 3) lsA (.ref H.size :: st.map (tr Γ))))
  rw [gs_N hR]
  refine kk p e R s m args below meth c Z F RX H1 locs (cells + 1) (slots + n) lsA (hR.push z1 o1 ?_) hT (va_S_push hS z1 o1) hL (by show cells + 1 + b1 ≤ _; omega) (by show slots + n + b2 ≤ _; omega)
  unfold cOK
  rw [hs]
  show H1[gs Γ (xN μ)]? = some (arrV (Γ.2.2.1 t) n (fun j => fvl Γ (nN μ (xN μ + 1)) (xN μ) (atyT t) j))
  rw [e1]
  congr 2
  funext j
  rw [hty]
  show Value.null = tro Γ (xR μ (xN μ) j)
  rw [(hz j).2.2]
  rfl
theorem g_aast {b : Nat × Nat} {a v t n ci : Nat} {r : vw_C} {i : Int32} (hr : clT[ci]? = some r) (hty : atyT t = .object r.1) (ha : ar μ a t n) (h32 : 32 ≤ a) (hin : vp_in i n) (ho : ob μ v ci) (hd : decode (mC M) pc = .ok (.aastore, 1)) (kk : G Γ M d b Q (pc + 1) ls st (sR μ a i.toNatClampNeg (some v))) : G Γ M d b Q pc ls (.ref v :: .int i :: .ref a :: st) μ := by
  intro p e R s m args below meth c Z F RX H locs cells slots lsA hR hT hS hL hc hs
  have ht := (shp_ty _ _ _ ha.1).1
  have hlt : i.toNatClampNeg < n := Nat.not_le.mp fun q => hin (Or.inr q)
  have h0 : ¬ i < 0 := fun q => hin (Or.inl q)
  obtain ⟨r', hr', cellV, g1, g2, g3, -⟩ := ho.cell hR
  have hcls := (F.2.2.2.2.2.2.2.2.1.1 ci r hr).2
  have hRA := (F.2.2.2.2.2.2.2.2.1.2 t _ (tysX_at ht)).2
  have hRA2 : va_RA s (Γ.2.2.1 t) (.object r.1) := by rw [← hty]; exact hRA
  obtain ⟨kA, comp, k1, k2, k3, -⟩ := hRA2
  have hcomp : comp = Γ.2.1.1 ci := Option.some.inj (k3.symm.trans hcls.1)
  subst hcomp
  obtain ⟨kC, hkC, -⟩ := hcls.2
  refine W.aast F.1 F.2.1 (ha.cell h32 hR) (fun q h => by cases h) (fun h => by cases h) k1 k2 rfl hkC ⟨h0, by rw [arrV_size]; exact hlt⟩ g1 (fun q h => by rw [g3] at h; cases h) (by rw [g2]; exact hkC) (by rw [g2]; exact va_assign hcls) rfl rfl hd fun H1 e z oq => ?_
  refine kk p _ R s m args below meth c Z F RX H1 _ cells slots lsA (hR.upd z oq rfl h32 (fun _ h ty j => fvl_sR_ne h ty j) (st_cell ha hR h32 e (fun j => new_r (ty := fun _ => atyT t) (by rw [hty]; rfl)))) (hT.upd (fun q hq j => rfl)) (hS.put z oq (gs_A h32)) hL hc hs
end GN
