/-! AN ARRAY OF ARRAYS -/
def mlt (μ : XM) (n : Nat) : XM := (μ.1, μ.2.1, fun a j => if a = xN μ ∧ j < n then some (xN μ + 1 + j) else xR μ a j, xN μ + 1 + n)
theorem xN_mlt (μ : XM) (n : Nat) : xN (mlt μ n) = xN μ + 1 + n := rfl
theorem fvl_mlt {Γ : XG} {μ : XM} {n k : Nat} (h : k ≠ xN μ) (ty : FieldType) (j : Nat) : fvl Γ (mlt μ n) k ty j = fvl Γ μ k ty j := by
  have e : xR (mlt μ n) k j = xR μ k j := by
    show (if k = xN μ ∧ j < n then _ else _) = _
    rw [if_neg (fun q => h q.1)]
  unfold fvl
  rw [e]
  rfl
theorem outer_eta (cA : ClassId) (n h0 : Nat) : ∀ i, Jvm.Free.Multi.outerC cA n h0 i = { cls := cA, slots := (Jvm.Free.Multi.outerC cA n h0 i).slots, vm := .none }
  | 0 => rfl
  | i + 1 => by
    have ih := outer_eta cA n h0 i
    unfold Jvm.Free.Multi.outerC
    rw [ih]
    rfl
theorem outer_arrV {cA : ClassId} {n h0 : Nat} {f : Nat → Value} (hf : ∀ j, j < n → f j = .ref (h0 + 1 + j)) : Jvm.Free.Multi.outerC cA n h0 n = arrV cA n f := by
  have o3 := (Jvm.Free.Multi.outerC_facts cA n h0 n).2.2
  have e : (Jvm.Free.Multi.outerC cA n h0 n).slots = (arrV cA n f).slots := by
    apply Array.ext
    · rw [o3, arrV_size]
    · intro j h1 h2
      rw [o3] at h1
      have q1 := Jvm.Free.Multi.outerC_slot cA n h0 n j h1
      have q2 := arrV_read cA f h1
      rw [if_pos h1, ← hf j h1] at q1
      have r1 := (Array.getElem?_eq_some_iff.mp q1).2
      have r2 := (Array.getElem?_eq_some_iff.mp q2).2
      rw [r1, r2]
  rw [outer_eta, e]
  rfl
theorem g_multi {Γ : XG} {M : MM} {d b1 b2 : Nat} {Q : Option Value → XM → Prop} {pc : Nat} {ls st : List Value} {μ : XM} {i n k : Nat} (hcl : Cond.classLink (cnm (mOwn M)) i "[[I" ∈ lwG) (harr : Cond.arrayClass .int ∈ lwG) (hs : shp (xN μ) = some (.inr (8, n))) (hr : ∀ j, j < n → shp (xN μ + 1 + j) = some (.inr (0, k))) (hz : ∀ c, xN μ ≤ c → zc μ c)
    (hn : n < 1000) (hk : k < 1000) (hd : decode (mC M) pc = .ok (.multianewarray i 2, 4)) (kk : G Γ M d (b1, b2) Q (pc + 4) ls (.ref (xN μ) :: st) (mlt μ n)) : G Γ M d (b1 + (1 + n), b2 + (n + n * k)) Q pc ls (.int (w (k : Int)) :: .int (w (n : Int)) :: st) μ := by
  intro p e R s m args below meth c Z F RX H locs cells slots lsA hR hT hS hL hc hs'
  have hc' : cells + (b1 + (1 + n)) ≤ R.cells := hc
  have hs2 : slots + (b2 + (n + n * k)) ≤ R.slots := hs'
  have en : (w (n : Int)).toNatClampNeg = n := w_cln (by omega)
  have ek : (w (k : Int)).toNatClampNeg = k := w_cln (by omega)
  have hn0 : ¬ w (n : Int) < 0 := by rw [← w0, w_lt (by omega) (by omega) (by omega) (by omega)]; omega
  have hk0 : ¬ w (k : Int) < 0 := by rw [← w0, w_lt (by omega) (by omega) (by omega) (by omega)]; omega
  have hsz := gs_N hR
  have hov : (Cond.arrayOver (.array .int)).before args s = true := (hT.2.2.2.2.2.2.2.2 (.array .int) (by decide) : va_Nw _ s)
  intro T hTh X
  have hTz : T.heap.size = gs Γ (xN μ) := by rw [hTh]; exact hsz
  obtain ⟨vm₁, cA, comp, hW, hfA, hfC, X1, step⟩ := X.multianewarray2 F.1 (own := cnm (mOwn M)) (index := i) (ty := .int) F.2.2.2.2.1 (F.2.2.2.2.2.1 _ hcl) hov (F.2.2.2.2.2.1 _ harr)
    (g := F0 m pc lsA ((Value.int (w (k : Int)) :: .int (w (n : Int)) :: st).map (tr Γ))) rfl (by rw [F.2.1]; exact hd) (n := w (n : Int)) (k := w (k : Int)) (rest := st.map (tr Γ)) rfl hn0 hk0 (by rw [en]; omega) (by rw [ek]; show k * 4 ≤ _; omega) (by rw [ek]; omega) (by decide) (by decide) (by rw [en]; omega) (by rw [en, ek]; omega)
  rw [en, ek] at X1 step
  have hA8 : cA = Γ.2.2.1 8 := Option.some.inj (hfA.symm.trans (F.2.2.2.2.2.2.2.2.1.2 8 _ (tysX_at (by decide))).2)
  have hA0 : comp = Γ.2.2.1 0 := Option.some.inj (hfC.symm.trans (F.2.2.2.2.2.2.2.2.1.2 0 _ (tysX_at (by decide))).2)
  subst hA8 hA0
  have hT1 : (T.setVm vm₁).heap = H := hTh
  obtain ⟨f1, f2, -, -⟩ := Jvm.Free.Multi.fill_facts (T.setVm vm₁) (Γ.2.2.1 8) (Γ.2.2.1 0) n k (defaultValue .int) n
  have f3 : ∀ a : Nat, a < (T.setVm vm₁).heap.size → (Jvm.Free.Multi.fill (T.setVm vm₁) (Γ.2.2.1 8) (Γ.2.2.1 0) n k (defaultValue .int) n).heap[a]? = (T.setVm vm₁).heap[a]? := fun a ha => Jvm.Free.Multi.fill_old (T.setVm vm₁) (Γ.2.2.1 8) (Γ.2.2.1 0) n k (defaultValue .int) ha n
  have f4 := Jvm.Free.Multi.fill_inner (T.setVm vm₁) (Γ.2.2.1 8) (Γ.2.2.1 0) n k (defaultValue .int) n
  rw [hT1] at f1 f2 f3 f4
  generalize hT' : Jvm.Free.Multi.fill (T.setVm vm₁) (Γ.2.2.1 8) (Γ.2.2.1 0) n k (defaultValue .int) n = T' at X1 step f1 f2 f3 f4
  obtain ⟨h1, h2, h3⟩ := hR
  have hgN : gs Γ (xN μ) = H.size := hsz.symm
  have hgj : ∀ j, gs Γ (xN μ + 1 + j) = H.size + 1 + j := fun j => by rw [hsz]; unfold gs; rw [if_neg (by omega), if_neg (by omega)]; omega
  have hR' : Rep Γ (mlt μ n) T'.heap := by
    refine ⟨by rw [f1, h1, xN_mlt]; omega, by rw [xN_mlt]; omega, fun q hq hq2 => ?_⟩
    rw [xN_mlt] at hq2
    by_cases e1 : q = xN μ
    · subst e1
      unfold cOK
      rw [hs]
      show T'.heap[gs Γ (xN μ)]? = _
      rw [hgN, f2]
      congr 1
      refine outer_arrV fun j hj => ?_
      show tro Γ (if xN μ = xN μ ∧ j < n then _ else _) = _
      rw [if_pos ⟨rfl, hj⟩]
      show Value.ref (gs Γ (xN μ + 1 + j)) = _
      rw [hgj]
    · by_cases e2 : q < xN μ
      · have hg : T'.heap[gs Γ q]? = H[gs Γ q]? := f3 (gs Γ q) (by unfold gs; rw [if_neg (by omega), h1]; omega)
        have h := h3 q hq e2
        unfold cOK at h ⊢
        split at h
        · trivial
        · obtain ⟨r, q1, q2⟩ := h
          refine ⟨r, q1, ?_⟩
          have := q2.kept hg
          rw [show (fun j => fvl Γ (mlt μ n) q (tyT _ j) j) = (fun j => fvl Γ μ q (tyT _ j) j) from funext fun j => fvl_mlt e1 _ _]
          exact this
        · rw [hg, h]
          congr 2
          funext j
          exact (fvl_mlt e1 _ _).symm
      · obtain ⟨j, rfl⟩ : ∃ j, q = xN μ + 1 + j := ⟨q - xN μ - 1, by omega⟩
        have hj : j < n := by omega
        unfold cOK
        rw [hr j hj]
        show T'.heap[gs Γ (xN μ + 1 + j)]? = _
        rw [hgj, f4 j hj]
        show some ({ cls := Γ.2.2.1 0, slots := Array.replicate k (defaultValue .int), vm := .none } : Cell) = _
        rw [arrV_new]
        congr 2
        funext x
        rw [fvl_mlt e1]
        exact dfl rfl (hz _ (by omega))
  have hS' : va_S (gA Γ) s.heap T'.heap (locs ++ (List.range n).map fun j => ⟨T.heap.size, j⟩) := by
    refine ⟨by rw [f1]; exact Nat.le_trans hS.1 (by omega), fun x y1 y2 => (f3 x (Nat.lt_of_lt_of_le y1 hS.1)).trans (hS.2.1 x y1 y2), fun l hl => ?_⟩
    rcases List.mem_append.mp hl with q | q
    · exact hS.2.2 l q
    · obtain ⟨j, -, rfl⟩ := List.mem_map.mp q
      show gA Γ T.heap.size
      rw [hTz]
      exact gs_A h2
  obtain ⟨t, a1, b1⟩ := kk p e R s m args below meth c Z F RX T'.heap _ (cells + 1 + n) (slots + n + n * k) lsA hR' (hT.upd (fun q hq j => rfl)) hS' hL (by show cells + 1 + n + b1 ≤ _; omega) (by show slots + n + n * k + b2 ≤ _; omega) T' rfl X1
  refine ⟨t, step t ?_, b1⟩
  rw [hTz]
  exact a1
