/-! THE LAW'S LOOP: helpers (written by wip/tools/genbo.py) -/
def m_LW_law : MM := (12, ⟨"FrostBoxLaw", "law", "([I)Z"⟩, code, 7, some .boolean, 0, 0)
theorem ok_LW_law : mOK m_LW_law := ⟨by decide +kernel, by decide +kernel⟩
theorem dk_LW_box (d : Nat) : dOK (d + 1) d m_LW_box := ⟨Nat.le_refl _, by show 19 + 5 + 40 * d ≤ 40 * (d + 1); omega⟩
theorem g_less {Γ : XG} {M : MM} {d b1 b2 c1 c2 : Nat} {Q : Option Value → XM → Prop} {pc : Nat} {ls st : List Value} {μ : XM} (k : G Γ M d (b1, b2) Q pc ls st μ) : G Γ M d (b1 + c1, b2 + c2) Q pc ls st μ := by
  intro p e R s m args below meth c Z F RX H locs cells slots lsA hR hT hS hL hc hs
  have h1 : cells + (b1 + c1) ≤ R.cells := hc
  have h2 : slots + (b2 + c2) ≤ R.slots := hs
  exact k p e R s m args below meth c Z F RX H locs cells slots lsA hR hT hS hL (by show cells + b1 ≤ _; omega) (by show slots + b2 ≤ _; omega)
section GL
variable {Γ : XG} {d c : Nat} {b : Nat × Nat} {Q : Option Value → XM → Prop} {pc pc' : Nat} {ls st : List Value} {μ : XM} {xs : Nat → Int32}
def argB (pc k : Nat) : Bool := okB m_LW_law pc [(.aload_n 0, 0, 0, 0), (.iload 4, 0, 0, 0), (.iconst (k : Int), 0, 0, 0), (.iadd, 0, 0, 0)] (pc + 5) && decide (decode (mC m_LW_law) (pc + 5) = .ok (.iaload, 1))
/-- an int of the script -/
theorem g_arg {v3 : List Value} (k : Nat) (h : argB pc k = true) (hk : k < 6) (hL : 6 * c + 6 ≤ Γ.2.2.2.2.2.2) (h3 : Γ.2.2.2.2.2.2 ≤ 3072) (hx : ∀ j, xI μ 31 j = xs j) (kk : G Γ m_LW_law d b Q (pc + 6) (.ref 31 :: .ref 32 :: .ref 547 :: .ref 573 :: .int (w ((6 * c : Nat) : Int)) :: v3) (.int (xs (6 * c + k)) :: st) μ) : G Γ m_LW_law d b Q pc (.ref 31 :: .ref 32 :: .ref 547 :: .ref 573 :: .int (w ((6 * c : Nat) : Int)) :: v3) st μ := by
  unfold argB at h
  simp only [Bool.and_eq_true, decide_eq_true_eq] at h
  refine run_ok (pc' := pc + 5) [(.aload_n 0, 0, 0, 0), (.iload 4, 0, 0, 0), (.iconst (k : Int), 0, 0, 0), (.iadd, 0, 0, 0)] _ _ _ _ h.1 ?_
  show G Γ m_LW_law d b Q (pc + 5) (.ref 31 :: .ref 32 :: .ref 547 :: .ref 573 :: .int (w ((6 * c : Nat) : Int)) :: v3) (.int (w ((6 * c : Nat) : Int) + w (k : Int)) :: .ref 31 :: st) μ
  have e : w ((6 * c : Nat) : Int) + w (k : Int) = w ((6 * c + k : Nat) : Int) := by rw [w_add]; congr 1
  rw [e]
  refine g_sld h.2 (w_in (by omega) (by omega) (by omega)) ?_
  rw [w_cln (by omega), hx]
  exact kk
def z01B (pc : Nat) : Bool := decide (decode (mC m_LW_law) pc = .ok (.ifCond .eq 7, 3)) && okB m_LW_law (pc + 3) [(.iconst 1, 0, 0, 0), (.goto 4, 0, 0, 0)] (pc + 8) && okB m_LW_law (pc + 7) [(.iconst 0, 0, 0, 0)] (pc + 8)
def z01 (v : Int32) : Int := if v = w 0 then 0 else 1
theorem z01_bd (v : Int32) : (0 ≤ z01 v ∧ z01 v ≤ 1) ∧ (z01 v = 0 ∨ z01 v = 1) := by
  unfold z01
  by_cases h : v = w 0
  · rw [if_pos h]; omega
  · rw [if_neg h]; omega
/-- != 0, as 0 or 1 -/
theorem g_z01 {v : Int32} (h : z01B pc = true) (kk : G Γ m_LW_law d b Q (pc + 8) ls (.int (w (z01 v)) :: st) μ) : G Γ m_LW_law d b Q pc ls (.int v :: st) μ := by
  unfold z01B at h
  simp only [Bool.and_eq_true, decide_eq_true_eq] at h
  unfold z01 at kk
  refine g_ifz_eq (pc' := pc + 7) (off := 7) (by omega) h.1.1 (fun e => ?_) (fun e => ?_)
  · rw [if_pos e] at kk
    exact run_ok (pc' := pc + 8) [(.iconst 0, 0, 0, 0)] _ _ _ _ h.2 kk
  · rw [if_neg e] at kk
    exact run_ok (pc' := pc + 8) [(.iconst 1, 0, 0, 0), (.goto 4, 0, 0, 0)] _ _ _ _ h.1.2 kk
set_option maxRecDepth 100000 in
theorem ll85 : Cond.constantLong (cnm (mOwn m_LW_law)) 85 (wl 4294967295) ∈ lwG := lwG_in (List.mem_of_getElem? (i := 1935) rfl) rfl
def yrB (pc : Nat) : Bool := okB m_LW_law pc [(.i2l, 0, 0, 0), (.bipush 32, 0, 0, 0), (.lshl, 0, 0, 0)] (pc + 4)
def yrC (pc : Nat) : Bool := okB m_LW_law pc [(.i2l, 0, 0, 0)] (pc + 1) && decide (decode (mC m_LW_law) (pc + 1) = .ok (.ldc2_w 85, 3)) && okB m_LW_law (pc + 4) [(.land, 0, 0, 0), (.lor, 0, 0, 0)] (pc + 6)
theorem KS.N {xs : Nat → Int32} {μ : XM} {c : Nat} (h : KS xs μ c) : 574 ≤ xN μ ∧ ∀ j, xI μ 31 j = xs j := by
  obtain ⟨h, W, n, ru, ki, s, bx, m, T, mg, A, lt, lz, lc, sel, k, pz, pv, tn, tb, hab, cl, lo, cf, fd, ik, si, bi, mi, Ti, gi, hF, hM, hT, hx⟩ := h
  exact ⟨hF.1.1.1.1, hx⟩
theorem ob32 (h : 574 ≤ xN μ) : ob μ 32 10 := ⟨rfl, by omega⟩
theorem ob546 (h : 574 ≤ xN μ) : ob μ 547 11 := ⟨rfl, by omega⟩
set_option maxRecDepth 100000 in
theorem gd_LW : GoodIn lwG (va_wsS "FrostBoxLaw" 46 (mY m_LW_box) mWH) := by
  intro w hw
  have h0 : ∀ x : Cond, x ∈ lwG → x ∈ lwG ∧ ((x.onTables && x.keeps) = true ∨ ∃ ty, x = .arrayClass ty) := fun x h => ⟨h, good_of_word (lwG_good h)⟩
  unfold va_wsS mWH at hw
  rcases List.mem_append.mp hw with hw | hw
  · simp only [List.mem_cons, List.not_mem_nil, or_false] at hw
    rcases hw with rfl | rfl | rfl
    · exact h0 _ (lwG_in (List.mem_of_getElem? (i := 1129) rfl) rfl)
    · exact h0 _ (lwG_in (List.mem_of_getElem? (i := 1130) rfl) rfl)
    · exact h0 _ (lwG_in (List.mem_of_getElem? (i := 112) rfl) rfl)
  · rcases List.mem_cons.mp hw with rfl | hw
    · exact h0 _ (lwG_in (List.mem_of_getElem? (i := 1131) rfl) rfl)
    · exact h0 _ hw
/-- the call of the law's box -/
theorem g_invH {b1 b2 : Nat} {Q' : Option Value → XM → Prop} {As : List Value} (hd : decode (mC m_LW_law) pc = .ok (.invokestatic 46, 3)) (hn : As.length = 4) (hst : (st.map fun v => v.category).sum ≤ 8) (hcall : CallH Γ d As μ Q')
    (kk : ∀ v μ', Q' v μ' → xN μ ≤ xN μ' → G Γ m_LW_law (d + 1) (b1, b2) Q (pc + 3) ls (v.toList ++ st) μ') : G Γ m_LW_law (d + 1) (b1 + mc m_LW_box, b2 + ms m_LW_box) Q pc ls (As.reverse ++ st) μ := by
  intro p e R s m args below meth c Z F RX H locs cells slots lsA hR hT hS hLs hc hs
  refine g_after F RX hT hS hLs hc hs (st := st) (aa := (As.map (tr Γ)).toArray) hR ?_ kk
  have hk := dk_LW_box d
  have h1 := F.2.2.2.2.2.2.2.2.2.2.1
  have h2 := F.2.2.2.2.2.2.2.2.2.2.2
  refine vx_runSW (hh := hhB) (As := As.map (tr Γ)) ⟨F.1, F.2.1, F.2.2.2.1, F.2.2.2.2.1, F.2.2.2.2.2.1⟩ hcall (vx_cwSW (own := "FrostBoxLaw") (index := 46) (hh := hhB) (ws' := lwG) 4 F.2.2.2.2.2.1 gd_LW rfl rfl rfl (by decide +kernel) ⟨Nat.le_trans hk.1 h1, by have := hk.2; show 8 + (mL m_LW_box + 11) + 40 * d ≤ _; omega⟩) ⟨PcX.blind _ _ _, pre_x F hR hT hS⟩ rfl (by rw [List.length_map]; exact hn) hLs.1 ?_ (lv_room (st_x hst)) hd (le_x hc hs)
  show List.map (tr Γ) (As.reverse ++ st) = _
  rw [List.map_append, List.map_reverse]
end GL
