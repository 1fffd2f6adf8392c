/-! WHAT THE STATEMENT GIVES OF THE START -/
def FLs : List Cond := flatC (Cond.and given_1 narrow_1)
def stL (k : Nat) : List Int := ([[40, 9, 6, 1], [0, 3, 12, 3, 6], [0, 2, 0, 0], [97, 111, 110, 121, 107, 109], [114, 104, 108, 101], [1, 0, 1, 0], [99, 24, 99, 5], [99, 119, 111, 112, 103], [0, 1, 1, 0, 0], [5, 9, 36, 9, 6], [107, 110, 97, 108], [0, 1, 0, 0], [5, 9, 99, 1], [112, 116, 108, 109, 99]] : List (List Int)).getD k []
def stT (k : Nat) : Nat := ([0, 0, 0, 3, 3, 0, 0, 3, 0, 0, 3, 0, 0, 3] : List Nat).getD k 0
def stm (k : Nat) : Term := .static "FrostBox" (stN k).1 (stN k).2
theorem st_shp : ∀ k, k < 14 → shp k = some (.inr (stT k, (stL k).length)) ∧ (stL k).length < 100 := by decide
theorem st_arr : ∀ k, k < 14 → Cond.arrayOf (stm k) (atyT (stT k)) ∈ FLs := by decide +kernel
theorem st_len : ∀ k, k < 14 → Cond.eq (.length (stm k)) (.int (Int32.ofNat (stL k).length)) ∈ FLs := by decide +kernel
theorem st_el : ∀ k, k < 14 → ∀ j, j < (stL k).length → Cond.eq (.elem (stm k) (.int (Int32.ofNat j))) (.int (w ((stL k).getD j 0))) ∈ FLs := by decide +kernel
theorem st_lay : ∀ k, k < 14 → Cond.laysStatic "FrostBox" (stN k).1 (stN k).2 ∈ lw_tbl := by decide +kernel
theorem sT_L : ∀ a, a < 14 → ∀ j, j < 6 → ∀ v, sT a j = some v → (stL a).getD j 0 = v := by
  intro a ha j hj v h
  have q : ∀ a, a < 14 → ∀ j, j < 6 → (sT a j = none ∨ sT a j = some ((stL a).getD j 0)) := by decide
  rcases q a ha j hj with e | e <;> rw [e] at h <;> cases h
  rfl
theorem sT_bd {a j : Nat} {v : Int} (h : sT a j = some v) : a < 14 ∧ j < 6 := by
  unfold sT at h
  have hj := (List.getElem?_eq_some_iff.mp h).1
  split at hj <;> simp at hj <;> omega
def trm (i : Nat) : Term := .string "FrostBoxModel" (strI i).1
def sLn : List Nat := [1, 6, 4, 5, 4, 5]
def sBy : List (List Int32) := [[121], [97, 111, 110, 121, 107, 109], [114, 104, 108, 101], [99, 119, 111, 112, 103], [107, 110, 97, 108], [112, 116, 108, 109, 99]]
theorem s_ok : ∀ i, i < 6 → sLn.getD i 0 = (sS i).length ∧ ∀ j, j < (sS i).length → (sBy.getD i []).getD j 0 = w ((sS i).getD j 0) := by decide
theorem s_ex : ∀ i, i < 6 → Cond.exactly (trm i) "java/lang/String" ∈ FLs ∧ Cond.eq (.field (trm i) "java/lang/String" "coder" "B") (.int 0) ∈ FLs ∧ Cond.arrayOf (.field (trm i) "java/lang/String" "value" "[B") .byte ∈ FLs ∧ Cond.eq (.length (.field (trm i) "java/lang/String" "value" "[B")) (.int (Int32.ofNat (sLn.getD i 0))) ∈ FLs := by decide +kernel
theorem s_el : ∀ i, i < 6 → ∀ j, j < sLn.getD i 0 → Cond.eq (.elem (.field (trm i) "java/lang/String" "value" "[B") (.int (Int32.ofNat j))) (.int ((sBy.getD i []).getD j 0)) ∈ FLs := by decide +kernel
theorem s_ne : ∀ i, i < 6 → ∀ j, j < 6 → i ≠ j → (Cond.not (Cond.eq (trm i) (trm j)) ∈ FLs ∨ Cond.not (Cond.eq (trm j) (trm i)) ∈ FLs) := by decide +kernel
theorem s_ref : ∀ i, i < 6 → Cond.stringRef "FrostBoxModel" (strI i).1 (strI i).2 ∈ lw_tbl := by decide +kernel
theorem ov_in : ∀ ty ∈ ovL, Cond.arrayOver ty ∈ lw_tbl := by decide +kernel
theorem nx_in : ∀ w ∈ nxW, w ∈ lw_tbl := by decide +kernel
theorem fm_in : Cond.isRef (.static "jdk/internal/util/Preconditions" "SIOOBE_FORMATTER" "Ljava/util/function/BiFunction;") ∈ FLs ∧ Cond.laysStatic "jdk/internal/util/Preconditions" "SIOOBE_FORMATTER" "Ljava/util/function/BiFunction;" ∈ lw_tbl ∧ Cond.initialized "jdk/internal/util/Preconditions" ∈ lw_tbl := by decide +kernel
theorem cp_in : Cond.eq (.static "java/lang/String" "COMPACT_STRINGS" "Z") (.int 1) ∈ FLs ∧ Cond.laysStatic "java/lang/String" "COMPACT_STRINGS" "Z" ∈ lw_tbl ∧ Cond.initialized "java/lang/String" ∈ lw_tbl ∧ Cond.initialized "FrostBox" ∈ lw_tbl := by decide +kernel
theorem th_in : ∀ k, k < 2 → Cond.isRef (.static Bundle.tN (thN k).1 (thN k).2) ∈ FLs ∧ Cond.laysStatic Bundle.tN (thN k).1 (thN k).2 ∈ lw_tbl ∧ Cond.initialized Bundle.tN ∈ lw_tbl := by decide +kernel
theorem in_in : ∀ r ∈ clT.map (fun r => Cond.instantiable r.1 r.2.2), r ∈ lw_tbl := by decide +kernel
theorem ac_in : ∀ t, t < 5 → Cond.arrayClass (atyT t) ∈ lw_tbl := by decide +kernel
theorem va_T_cg {ty : FieldType} {t N : Nat} {f g : Nat → Value} {A : Nat → Prop} {U : State} {H : Heap} (h : va_T ty t N f A U H) (e : ∀ j, j < N → f j = g j) : va_T ty t N g A U H := by
  obtain ⟨cell, h1, h2, h3, h4, h5, h6, h7⟩ := h
  exact ⟨cell, h1, h2, h3, h4, h5, fun j hj => by rw [← e j hj]; exact h6 j hj, h7⟩
/-- the ints at the start -/
def I0 (xs : Nat → Int32) : RI4 := fun c j => if c < 14 then w ((stL c).getD j 0) else if c = 31 then xs j else if 20 ≤ c ∧ c < 26 then w ((sS (c - 20)).getD j 0) else w 0
def mu0 (xs : Nat → Int32) : XM := (I0 xs, fun _ _ => wl 0, fun _ _ => none, 32)
theorem arr_cls {args : Array Value} {s : State} (ht : ∀ w ∈ lw_tbl, w.before args s = true) : ∀ t : Nat, ∃ cA : ClassId, t < 9 → ArrOfT s cA (atyT t) ∧ va_RA s cA (atyT t) := by
  intro t
  have prim : ∀ t, t < 5 → ∃ cA : ClassId, ArrOfT s cA (atyT t) ∧ s.vm.findClass ("[" ++ (atyT t).toString) = some cA := fun t h => by
    obtain ⟨cA, k, comp, h1, h2, h3⟩ := Cond.arrayClass_spec (ht _ (ac_in t h))
    exact ⟨cA, fun n z => ⟨(fun q h => by cases h), k, h2, comp, h3⟩, h1⟩
  have obj : ∀ C, (FieldType.object C) ∈ ovL → ∃ cA : ClassId, ArrOfT s cA (.object C) ∧ va_RA s cA (.object C) := fun C h => by
    obtain ⟨comp, cA, k, h1, -, h2, h3, h4⟩ := Cond.arrayOver_spec (ht _ (ov_in _ h))
    exact ⟨cA, fun n z => ⟨(fun q h => by cases h), k, h2, comp, h3⟩, k, comp, h2, h3, h1, h4⟩
  match t with
  | 0 => exact (prim 0 (by decide)).elim fun c h => ⟨c, fun _ => ⟨h.1, h.2⟩⟩
  | 1 => exact (prim 1 (by decide)).elim fun c h => ⟨c, fun _ => ⟨h.1, h.2⟩⟩
  | 2 => exact (prim 2 (by decide)).elim fun c h => ⟨c, fun _ => ⟨h.1, h.2⟩⟩
  | 3 => exact (prim 3 (by decide)).elim fun c h => ⟨c, fun _ => ⟨h.1, h.2⟩⟩
  | 4 => exact (prim 4 (by decide)).elim fun c h => ⟨c, fun _ => ⟨h.1, h.2⟩⟩
  | 5 => exact (obj "FrostBox$Law" (by decide)).elim fun c h => ⟨c, fun _ => h⟩
  | 6 => exact (obj "FrostBox$Plan" (by decide)).elim fun c h => ⟨c, fun _ => h⟩
  | 7 => exact (obj "FrostBox$Pile" (by decide)).elim fun c h => ⟨c, fun _ => h⟩
  | 8 =>
    obtain ⟨comp, cA, k, h1, h2, h3, h4⟩ := ml_over (ht _ (ov_in (.array .int) (by decide)))
    exact ⟨cA, fun _ => ⟨fun n z => ⟨(fun q h => by cases h), k, h2, comp, h3⟩, h4⟩⟩
  | t + 9 => exact ⟨0, fun h => absurd h (by omega)⟩
theorem obj_cls {args : Array Value} {s : State} (ht : ∀ w ∈ lw_tbl, w.before args s = true) : ∀ c : Nat, ∃ q : ClassId × (Nat → Nat), ∀ r, clT[c]? = some r → u_Kn s r.1 r.2.1 r.2.2 q.1 q.2 := by
  intro c
  cases hc : clT[c]? with
  | none => exact ⟨(0, fun _ => 0), fun r h => by cases h⟩
  | some r =>
    obtain ⟨cC, iS, h⟩ := u_known (ws := lwG) (args := args) (fun w hw => ht w (List.mem_filter.mp hw).1) (lyT_inG r (List.mem_of_getElem? hc)) (ht _ (in_in _ (List.mem_map_of_mem (f := fun r : vw_C => Cond.instantiable r.1 r.2.2) (List.mem_of_getElem? hc))))
    exact ⟨(cC, iS), fun r' e => by cases e; exact h⟩
theorem world {l : Launch} {args : Array Value} {s : State} {b L : Nat} {xs : Nat → Int32} (ht : ∀ w ∈ lw_tbl, w.before args s = true) (hs : ∀ w ∈ FLs, w.before args s = true) (hX : va_X b L xs s s.heap) (hb : b < s.heap.size) :
    ∃ Γ : XG, Γ.1 = l ∧ gB Γ = s.heap.size ∧ Γ.2.2.2.2.2.2 = L ∧ gs Γ 31 = b ∧ FM Γ ∧ va_K Γ.2.1 clT (tysX Γ) s ∧ StX Γ (mu0 xs) s := by
  obtain ⟨tA, hA9⟩ := Classical.axiomOfChoice (arr_cls ht)
  obtain ⟨dC, hC⟩ := Classical.axiomOfChoice (obj_cls ht)
  have nA : ∀ a : Nat, a < s.heap.size → ¬ (fun q : Nat => s.heap.size ≤ q) a := fun a h q => absurd h (Nat.not_lt.mpr q)
  have s0 : ∀ k : Nat, ∃ a : Nat, k < 14 → (stm k).eval args s none [] s = some (.ref a) ∧ va_T (atyT (stT k)) a (stL k).length (fun j => .int (w ((stL k).getD j 0))) (fun q => s.heap.size ≤ q) s s.heap := fun k => by
    by_cases hk : k < 14
    · obtain ⟨a, h1, h2⟩ := va_Tof (A := fun q => s.heap.size ≤ q) (f := fun j => .int (w ((stL k).getD j 0))) (Nat.lt_trans (st_shp k hk).2 (by decide)) (hs _ (st_arr k hk)) (va_eqt (hs _ (st_len k hk))) (fun j hj => va_eqt (hs _ (st_el k hk j hj))) nA
      exact ⟨a, fun _ => ⟨h1, h2⟩⟩
    · exact ⟨0, fun h => absurd h hk⟩
  obtain ⟨a1, h1⟩ := Classical.axiomOfChoice s0
  obtain ⟨aK, aV, hS, hE⟩ := vk_Sof (N := 6) (tm := trm) (len := sLn) (byt := sBy) (A := fun q => s.heap.size ≤ q) (args := args) (s := s) (by decide) (fun i hi => hs _ (s_ex i hi).1) (fun i hi => hs _ (s_ex i hi).2.1) (fun i hi => hs _ (s_ex i hi).2.2.1) (fun i hi => hs _ (s_ex i hi).2.2.2) (fun i hi j hj => hs _ (s_el i hi j hj)) (fun i j hi hj e => (s_ne i hi j hj e).imp (hs _) (hs _)) nA
  obtain ⟨fv, fa, hf1, hf2⟩ : ∃ (fv : Value) (fa : Nat), fv.category = 1 ∧ ((fv = .null ∧ va_Z "jdk/internal/util/Preconditions" "SIOOBE_FORMATTER" "Ljava/util/function/BiFunction;" .null (fun q => s.heap.size ≤ q) s s.heap) ∨ (fv = .ref 26 ∧ va_Z "jdk/internal/util/Preconditions" "SIOOBE_FORMATTER" "Ljava/util/function/BiFunction;" (.ref fa) (fun q => s.heap.size ≤ q) s s.heap)) := by
    rcases va_Zqof (A := fun q => s.heap.size ≤ q) (ht _ fm_in.2.1) (ht _ fm_in.2.2) (hs _ fm_in.1) nA with h | ⟨t, h⟩
    · exact ⟨.null, 0, rfl, Or.inl ⟨rfl, h⟩⟩
    · exact ⟨.ref 26, t, rfl, Or.inr ⟨rfl, h⟩⟩
  obtain ⟨Γ, eΓ⟩ : ∃ Γ : XG, Γ = (l, ((fun c => (dC c).1, fun c => (dC c).2) : va_G), tA, (fun k => if k < 14 then a1 k else if k < 20 then aK (k - 14) else if k < 26 then aV (k - 20) else if k = 26 then fa else b), s.heap.size, fv, L) := ⟨_, rfl⟩
  have eA : gA Γ = (fun q => s.heap.size ≤ q) := by rw [eΓ]; rfl
  have g1 : ∀ k, k < 14 → gs Γ k = a1 k := fun k hk => by
    rw [eΓ]; unfold gs; rw [if_pos (by omega)]
    show (if k < 14 then _ else _) = _
    rw [if_pos hk]
  have g2 : ∀ i, i < 6 → gs Γ (14 + i) = aK i := fun i hi => by
    rw [eΓ]; unfold gs; rw [if_pos (by omega)]
    show (if 14 + i < 14 then _ else _) = _
    rw [if_neg (by omega), if_pos (by omega), show 14 + i - 14 = i by omega]
  have g3 : ∀ i, i < 6 → gs Γ (20 + i) = aV i := fun i hi => by
    rw [eΓ]; unfold gs; rw [if_pos (by omega)]
    show (if 20 + i < 14 then _ else _) = _
    rw [if_neg (by omega), if_neg (by omega), if_pos (by omega), show 20 + i - 20 = i by omega]
  have g4 : gs Γ 26 = fa := by rw [eΓ]; rfl
  have g5 : gs Γ 31 = b := by rw [eΓ]; rfl
  have eF : Γ.2.2.2.2.2.1 = fv := by rw [eΓ]
  have eL : Γ.2.2.2.2.2.2 = L := by rw [eΓ]
  have eT : Γ.2.2.1 = tA := by rw [eΓ]
  refine ⟨Γ, by rw [eΓ], by rw [eΓ]; rfl, eL, g5, by unfold FM; rw [eF]; exact hf1, ⟨fun c r hr => by rw [eΓ]; exact hC c r hr, fun k q hq => ?_⟩, ?_⟩
  · have hk : k < 9 := by
      have := (List.getElem?_eq_some_iff.mp hq).1
      unfold tysX at this
      rw [List.length_map, List.length_range] at this
      exact this
    rw [tysX_at hk] at hq
    cases hq
    rw [eT]
    exact hA9 k hk
  · refine ⟨fun k t n hk hsh => ?_, fun k hk => ?_, fun i hi => ?_, ?_, ?_, fun i hi => ?_, ?_, fun w hw hn => va_Nw.of (isNst_tab hn) (ht w hw), fun ty hty => (show va_Nw (.arrayOver ty) s from ht _ (ov_in ty hty)), fun k hk => ?_, fun w hw => va_Nw.of (nxW_tab hw) (ht w (nx_in w hw))⟩
    · rw [eA]
      by_cases k1 : k < 14
      · rw [(st_shp k k1).1] at hsh
        cases hsh
        rw [g1 k k1]
        refine va_T_cg (h1 k k1).2 (fun j hj => ?_)
        show _ = Value.int (I0 xs k j)
        unfold I0
        rw [if_pos k1]
      · by_cases k2 : 20 ≤ k ∧ k < 26
        · obtain ⟨i, rfl⟩ : ∃ i, k = 20 + i := ⟨k - 20, by omega⟩
          rw [(sS_shp i (by omega)).1] at hsh
          cases hsh
          rw [g3 i (by omega)]
          have q := (hS.1 i (by omega)).2.2.2
          rw [(s_ok i (by omega)).1] at q
          refine va_T_cg q (fun j hj => ?_)
          show _ = Value.int (I0 xs (20 + i) j)
          unfold I0
          rw [if_neg (by omega), if_neg (by omega), if_pos (by omega), (s_ok i (by omega)).2 j hj, show 20 + i - 20 = i by omega]
        · have : ∀ k, k < 32 → ¬ k < 14 → ¬ (20 ≤ k ∧ k < 26) → shp k = none := by decide
          rw [this k hk k1 k2] at hsh
          cases hsh
    · rw [eA, g1 k hk]
      exact va_Zof (ht _ (st_lay k hk)) (ht _ cp_in.2.2.2) (h1 k hk).1 nA
    · rw [eA, g2 i hi, g3 i hi]
      exact ⟨(hS.1 i hi).1, (hS.1 i hi).2.1, (hS.1 i hi).2.2.1⟩
    · rw [eA]
      exact va_Zof (ht _ cp_in.2.1) (ht _ cp_in.2.2.1) (va_eqi (hs _ cp_in.1)) nA
    · rw [eA, eF]
      rcases hf2 with ⟨rfl, h⟩ | ⟨rfl, h⟩
      · exact h
      · show va_Z _ _ _ (.ref (gs Γ 26)) _ _ _
        rw [g4]
        exact h
    · rw [g2 i hi]
      exact vk_R.of (ht _ (s_ref i hi)) (hE i hi)
    · rw [eA, eL, g5]
      obtain ⟨scr, q1, q2, q3, q4, q5⟩ := hX
      refine ⟨scr, q1, q2, q3, Nat.le_of_eq q4.symm, by rw [q4], fun j hj => ?_, nA b hb⟩
      rw [q5 j hj]
      rfl
    · rw [eA]
      exact vx_Zqof (ht _ (th_in k hk).2.1) (ht _ (th_in k hk).2.2) (hs _ (th_in k hk).1) nA
