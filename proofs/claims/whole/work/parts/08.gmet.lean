/-! A METHOD BY ITS CONTRACT -/
def PcX (Γ : XG) (av : List Value) (μ : XM) : Array Value → State → Prop := fun a U => a = (av.map (tr Γ)).toArray ∧ Rep Γ μ U.heap ∧ va_K Γ.2.1 clT (tysX Γ) U ∧ StX Γ μ U
def QcX (Γ : XG) (μ : XM) (Q : Option Value → XM → Prop) : Array Value → State → Outcome → State → Prop := fun _ st o t => ∃ (v : Option Value) (μ' : XM), o = .returned (v.map (tr Γ)) ∧ Q v μ' ∧ Rep Γ μ' t.heap ∧ (∀ U : State, StX Γ μ U → StX Γ μ' U) ∧ st.heap.size ≤ t.heap.size ∧ ∀ q, q < st.heap.size → ¬ gA Γ q → t.heap[q]? = st.heap[q]?
theorem va_T_same {ty : FieldType} {t N : Nat} {f g : Nat → Value} {A : Nat → Prop} {s U : State} (h1 : va_T ty t N f A s s.heap) (h2 : va_T ty t N g A s s.heap) (h3 : va_T ty t N f A U U.heap) : va_T ty t N g A U U.heap := by
  obtain ⟨c1, a1, -, -, -, -, b1, -⟩ := h1
  obtain ⟨c2, a2, -, -, -, -, b2, -⟩ := h2
  cases a1.symm.trans a2
  obtain ⟨c3, e1, e2, e3, e4, e5, e6, e7⟩ := h3
  exact ⟨c3, e1, e2, e3, e4, e5, fun j hj => by rw [e6 j hj, ← b1 j hj, b2 j hj], e7⟩
theorem StX.trans {Γ : XG} {μ μ' : XM} {s U : State} (h1 : StX Γ μ s) (h2 : StX Γ μ' s) (h3 : StX Γ μ U) : StX Γ μ' U :=
  ⟨fun k t n hk hs => va_T_same (h1.1 k t n hk hs) (h2.1 k t n hk hs) (h3.1 k t n hk hs), h3.2.1, h3.2.2.1, h3.2.2.2.1, h3.2.2.2.2.1, h3.2.2.2.2.2.1, va_T_same h1.2.2.2.2.2.2.1 h2.2.2.2.2.2.2.1 h3.2.2.2.2.2.2.1, h3.2.2.2.2.2.2.2⟩
def mW (M : MM) : List Cond := .code (mY M) (mC M) (mL M) (mT M) :: lwG
def mR (M : MM) (d : Nat) : Room := { frames := d, cells := mc M, slots := ms M, locals := 40 * d }
/-- from the heap μ, called with av, it returns, with Q; d frames are enough -/
def Call (Γ : XG) (M : MM) (d : Nat) (av : List Value) (μ : XM) (Q : Option Value → XM → Prop) : Prop := Met Γ.1 (mY M) (mW M) (mR M d) (PcX Γ av μ) (QcX Γ μ Q) (mc M) (ms M) (gA Γ)
def lsOf (av : List Value) : List Value := av.flatMap (fun v => if v.category = 2 then [v, jk] else [v])
theorem nth_app (l r : List Value) (i : Nat) : nth (l ++ r) i = if i < l.length then nth l i else nth r (i - l.length) := by
  induction l generalizing i with
  | nil => simp
  | cons u t ih => match i with
    | 0 => simp [nth]
    | i + 1 => simp only [List.cons_append, nth, ih, List.length_cons, Nat.add_lt_add_iff_right, Nat.add_sub_add_right]
theorem lsOf_args (Γ : XG) (av : List Value) : ∀ (o i : Nat), nth (lsOf av) i ≠ jk → (o + i, tr Γ (nth (lsOf av) i)) ∈ lv_args o (av.map (tr Γ)) := by
  induction av with
  | nil => intro o i h; exact absurd (nth_nil i) h
  | cons v t ih =>
    intro o i h
    by_cases hc : v.category = 2
    · have e : lsOf (v :: t) = v :: jk :: lsOf t := by simp [lsOf, hc]
      rw [e] at h ⊢
      show _ ∈ (o, tr Γ v) :: lv_args (if (tr Γ v).category = 2 then o + 2 else o + 1) (t.map (tr Γ))
      rw [tr_cat, if_pos hc]
      match i with
      | 0 => exact List.mem_cons_self
      | 1 => exact absurd rfl h
      | i + 2 =>
        have := ih (o + 2) i h
        rw [show o + 2 + i = o + (i + 2) by omega] at this
        exact List.mem_cons_of_mem _ this
    · have e : lsOf (v :: t) = v :: lsOf t := by simp [lsOf, hc]
      rw [e] at h ⊢
      show _ ∈ (o, tr Γ v) :: lv_args (if (tr Γ v).category = 2 then o + 2 else o + 1) (t.map (tr Γ))
      rw [tr_cat, if_neg hc]
      match i with
      | 0 => exact List.mem_cons_self
      | i + 1 =>
        have := ih (o + 1) i h
        rw [show o + 1 + i = o + (i + 1) by omega] at this
        exact List.mem_cons_of_mem _ this
theorem lg_len (Γ : XG) (av : List Value) : (lg_sl (av.map (tr Γ))).length = (lsOf av).length := by
  induction av with
  | nil => rfl
  | cons v t ih =>
    unfold lg_sl lsOf at *
    simp only [List.map_cons, List.flatMap_cons, List.length_append, tr_cat, ih]
    split <;> rfl
theorem PcX.blind (Γ : XG) (av : List Value) (μ : XM) : FrameBlind (PcX Γ av μ) := fun a U g mk h =>
  ⟨h.1, h.2.1, va_K.moved (u := U) (U := U.calling g mk a) (Vm.Alike.refl U.vm) h.2.2.1,
    ⟨fun k t n hk hs => va_T.moved (u := U) (Vm.Alike.refl U.vm) (h.2.2.2.1 k t n hk hs), fun k hk => va_Z.moved (u := U) (Vm.Alike.refl U.vm) (h.2.2.2.2.1 k hk), fun i hi => ⟨va_O.moved (u := U) (Vm.Alike.refl U.vm) (h.2.2.2.2.2.1 i hi).1, va_OF.moved (u := U) (Vm.Alike.refl U.vm) (h.2.2.2.2.2.1 i hi).2.1, va_OF.moved (u := U) (Vm.Alike.refl U.vm) (h.2.2.2.2.2.1 i hi).2.2⟩,
     va_Z.moved (u := U) (Vm.Alike.refl U.vm) h.2.2.2.2.2.2.1, va_Z.moved (u := U) (Vm.Alike.refl U.vm) h.2.2.2.2.2.2.2.1, fun i hi => vk_R.same rfl (h.2.2.2.2.2.2.2.2.1 i hi), va_T.moved (u := U) (Vm.Alike.refl U.vm) h.2.2.2.2.2.2.2.2.2.1, fun w hw hn => va_Nw.same (u := U) (isNst_tab hn) rfl (h.2.2.2.2.2.2.2.2.2.2.1 w hw hn), fun ty ht => ov_moved (s := U) (Vm.Alike.refl U.vm) (h.2.2.2.2.2.2.2.2.2.2.2.1 ty ht), fun k hk => vx_Zq.moved (u := U) (Vm.Alike.refl U.vm) (h.2.2.2.2.2.2.2.2.2.2.2.2.1 k hk), fun w hw => va_Nw.same (u := U) (nxW_tab hw) rfl (h.2.2.2.2.2.2.2.2.2.2.2.2.2 w hw)⟩⟩
/-- a method's static facts -/
def mOK (M : MM) : Prop := plainName (mY M).cls = true ∧ cnm (mOwn M) = (mY M).cls
theorem Call.of {Γ : XG} {M : MM} {d : Nat} {av : List Value} {μ : XM} {Q : Option Value → XM → Prop} (hM : mOK M) (hl : (lsOf av).length ≤ mL M) (h : G Γ M d (mc M, ms M) Q 0 (lsOf av) [] μ) : Call Γ M d av μ Q := by
  refine Met.ofW (cc := mC M) (maxL := mL M) (ret := mT M) (ws' := lwG) hM.1 rfl ?_
  intro p e s m args below meth c s₁ B hml hv
  obtain ⟨rfl, hR, hK, hT⟩ := hv
  have hts := atoms_spec (ws := mW M) B.pre
  have hown : s.vm.findClass (cnm (mOwn M)) = some m.cls := by rw [hM.2]; exact findClass_of_methodNamed B.named
  have hlocks := B.notSynchronized
  have hbase : gB Γ ≤ s.heap.size := by rw [hR.1]; omega
  have F : FixX Γ M d p (headSpec (mW M) (mR M d)).room s m (av.map (tr Γ)).toArray meth c := ⟨B.exec, B.bytes, B.returns, hml, hown, fun w hw => hts w (List.mem_cons_of_mem _ hw), hlocks, (name_of_methodNamed B.named B.method).1, hK, hbase, Nat.le_refl _, Nat.le_refl _⟩
  have RX : RetX Γ M Q p e (headSpec (mW M) (mR M d)).room s m (av.map (tr Γ)).toArray below meth c (MQ below (QcX Γ μ Q) (av.map (tr Γ)).toArray s (mc M) (ms M) (gA Γ)) := by
    intro v μ' H locs cells slots lsA pc ins hq hR' hT' hS' hc hs hd hv
    refine W.widen (k := mc M) (n := ms M) hc hs ?_
    have hQ : ∀ t : State, t.heap = H → s.WarmedH t.vm → QcX Γ μ Q (av.map (tr Γ)).toArray s (.returned (v.map (tr Γ))) t := fun t ht _ =>
      ⟨v, μ', rfl, hq, by rw [ht]; exact hR', fun U hU => hT.trans hT' hU, by rw [ht]; exact hS'.1, fun q h1 h2 => by rw [ht]; exact hS'.2.1 q h1 h2⟩
    match v, hv, hQ with
    | none, hv, hQ =>
      obtain ⟨rfl, hr⟩ := hv
      exact W.vret F.1 F.2.1 (F.2.2.1.trans hr) hQ hS'.2.2 hd hlocks
    | some (.int x), hv, hQ =>
      obtain ⟨rfl, ty, hr, hn⟩ := hv
      exact W.zret F.1 F.2.1 (F.2.2.1.trans hr) hn hQ hS'.2.2 hd hlocks
    | some (.long x), hv, hQ =>
      obtain ⟨rfl, hr⟩ := hv
      exact W.lret F.1 F.2.1 (F.2.2.1.trans hr) hQ hS'.2.2 hd hlocks
  have hlv := lv_entry (av.map (tr Γ)) (n := mL M) (by rw [lg_len]; exact hl)
  rw [lg_entry_eq]
  exact h p e _ s m _ below meth c _ F RX s.heap [] 0 0 _ hR hT va_S.rf ⟨hlv.1, hlv.2.1, fun i hi => by
    have := lsOf_args Γ av 0 i hi
    rw [Nat.zero_add] at this
    exact hlv.2.2 _ this⟩ (by show 0 + mc M ≤ mc M; omega) (by show 0 + ms M ≤ ms M; omega)
