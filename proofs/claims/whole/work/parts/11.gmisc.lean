/-! MORE RULES FOR THE PRINTED PARTS -/
theorem w0 : w 0 = 0 := by decide
theorem ob.mono {μ μ' : XM} {a ci : Nat} (h : ob μ a ci) (hn : xN μ ≤ xN μ') : ob μ' a ci := ⟨h.1, Nat.lt_of_lt_of_le h.2 hn⟩
theorem ar.mono {μ μ' : XM} {a t n : Nat} (h : ar μ a t n) (hn : xN μ ≤ xN μ') : ar μ' a t n := ⟨h.1, Nat.lt_of_lt_of_le h.2 hn⟩
theorem Rep.mono {Γ : XG} {μ μ' : XM} {H H' : Heap} (h : Rep Γ μ H) (h' : Rep Γ μ' H') (hs : H.size ≤ H'.size) : xN μ ≤ xN μ' := by
  have a := h.1
  have b := h'.1
  have c := h.2.1
  have d := h'.2.1
  omega
/-- a copy of the first n ints can be -/
def cpo (μ : XM) (a c n : Nat) : Prop := 32 ≤ c ∧ (∃ na, ar μ a 0 na ∧ n ≤ na) ∧ ∃ nc, ar μ c 0 nc ∧ n ≤ nc
section GZ
variable {Γ : XG} {M M' : MM} {d d' b1 b2 : Nat} {b : Nat × Nat} {Q Q' : Option Value → XM → Prop} {pc pc' : Nat} {ls ls' st r As : List Value} {μ : XM} {i n a : Nat}
theorem G.conseq {Q2 : Option Value → XM → Prop} (h : G Γ M d b Q pc ls st μ) (hq : ∀ v μ', Q v μ' → Q2 v μ') : G Γ M d b Q2 pc ls st μ := by
  intro p e R s m args below meth c Z F RX
  exact h p e R s m args below meth c Z F (fun v μ' H locs cells slots lsA pc ins q => RX v μ' H locs cells slots lsA pc ins (hq v μ' q))
theorem Call.conseq {Q2 : Option Value → XM → Prop} {av : List Value} (h : Call Γ M d av μ Q) (hq : ∀ v μ', Q v μ' → Q2 v μ') : Call Γ M d av μ Q2 := by
  intro p e ha hc hk s m args below hf hp hx hh
  obtain ⟨t, o, h1, h2, h3, ⟨v, μ', e1, e2, e3⟩, h5⟩ := h p e ha hc hk s m args below hf hp hx hh
  exact ⟨t, o, h1, h2, h3, ⟨v, μ', e1, hq v μ' e2, e3⟩, h5⟩
/-- fewer locals are known -/
theorem g_weak (hw : ∀ i, nth ls' i ≠ jk → nth ls i = nth ls' i) (k : G Γ M d b Q pc ls' st μ) : G Γ M d b Q pc ls st μ := by
  intro p e R s m args below meth c Z F RX H locs cells slots lsA hR hT hS hL hc hs
  exact k p e R s m args below meth c Z F RX H locs cells slots lsA hR hT hS ⟨hL.1, hL.2.1, fun i hi => by
    have e := hw i hi
    rw [← e]
    exact hL.2.2 i (by rw [e]; exact hi)⟩ hc hs
/-- ls' says nothing that ls doesn't: each place is the same or unknown -/
def wkL : List Value → List Value → Prop
  | [], _ => True
  | u :: t, [] => u = jk ∧ wkL t []
  | u :: t, v :: r => (u = jk ∨ u = v) ∧ wkL t r
theorem wkL_nth : ∀ (l' l : List Value), wkL l' l → ∀ i, nth l' i ≠ jk → nth l i = nth l' i
  | [], l, _, i, hi => absurd (nth_nil i) hi
  | u :: t, [], h, i, hi => by
    match i with
    | 0 => exact absurd h.1 hi
    | i + 1 =>
      have := wkL_nth t [] h.2 i hi
      rw [nth_nil] at this ⊢
      exact this
  | u :: t, v :: r, h, i, hi => by
    match i with
    | 0 => rcases h.1 with e | e
           · exact absurd e hi
           · exact e.symm
    | i + 1 => exact wkL_nth t r h.2 i hi
theorem g_wk (hw : wkL ls' ls) (k : G Γ M d b Q pc ls' st μ) : G Γ M d b Q pc ls st μ := g_weak (wkL_nth ls' ls hw) k
theorem g_ifz_eq {x : Int32} {off : Int} (ht : (pc : Int) + off = (pc' : Int)) (hd : decode (mC M) pc = .ok (.ifCond .eq off, 3)) (kt : x = w 0 → G Γ M d b Q pc' ls st μ) (kf : ¬ x = w 0 → G Γ M d b Q (pc + 3) ls st μ) : G Γ M d b Q pc ls (.int x :: st) μ := by
  rw [w0] at kt kf; exact g_if_eq ht hd kt kf
theorem g_ifz_ne {x : Int32} {off : Int} (ht : (pc : Int) + off = (pc' : Int)) (hd : decode (mC M) pc = .ok (.ifCond .ne off, 3)) (kt : ¬ x = w 0 → G Γ M d b Q pc' ls st μ) (kf : x = w 0 → G Γ M d b Q (pc + 3) ls st μ) : G Γ M d b Q pc ls (.int x :: st) μ := by
  rw [w0] at kt kf; exact g_if_ne ht hd kt kf
theorem g_ifz_lt {x : Int32} {off : Int} (ht : (pc : Int) + off = (pc' : Int)) (hd : decode (mC M) pc = .ok (.ifCond .lt off, 3)) (kt : x < w 0 → G Γ M d b Q pc' ls st μ) (kf : ¬ x < w 0 → G Γ M d b Q (pc + 3) ls st μ) : G Γ M d b Q pc ls (.int x :: st) μ := by
  rw [w0] at kt kf; exact g_if_lt ht hd kt kf
theorem g_ifz_ge {x : Int32} {off : Int} (ht : (pc : Int) + off = (pc' : Int)) (hd : decode (mC M) pc = .ok (.ifCond .ge off, 3)) (kt : ¬ x < w 0 → G Γ M d b Q pc' ls st μ) (kf : x < w 0 → G Γ M d b Q (pc + 3) ls st μ) : G Γ M d b Q pc ls (.int x :: st) μ := by
  rw [w0] at kt kf; exact g_if_ge ht hd kt kf
theorem g_ifz_gt {x : Int32} {off : Int} (ht : (pc : Int) + off = (pc' : Int)) (hd : decode (mC M) pc = .ok (.ifCond .gt off, 3)) (kt : w 0 < x → G Γ M d b Q pc' ls st μ) (kf : ¬ w 0 < x → G Γ M d b Q (pc + 3) ls st μ) : G Γ M d b Q pc ls (.int x :: st) μ := by
  rw [w0] at kt kf; exact g_if_gt ht hd kt kf
theorem g_ifz_le {x : Int32} {off : Int} (ht : (pc : Int) + off = (pc' : Int)) (hd : decode (mC M) pc = .ok (.ifCond .le off, 3)) (kt : ¬ w 0 < x → G Γ M d b Q pc' ls st μ) (kf : w 0 < x → G Γ M d b Q (pc + 3) ls st μ) : G Γ M d b Q pc ls (.int x :: st) μ := by
  rw [w0] at kt kf; exact g_if_le ht hd kt kf
theorem g_cpy {i a c n : Nat} (hl : Cond.methodLink (cnm (mOwn M)) i arraycopyName ∈ lwG) (hw : Cond.native arraycopyName ∈ lwG ∧ Cond.static arraycopyName ∈ lwG ∧ Cond.initialized "java/lang/System" ∈ lwG) (hn : n < 2 ^ 31) (hst : (st.map fun v => v.category).sum ≤ 20)
    (hd : decode (mC M) pc = .ok (.invokestatic i, 3)) (h : cpo μ a c n) (kk : G Γ M (d + 2) b Q (pc + 3) ls st (sC μ a c n)) : G Γ M (d + 2) b Q pc ls (.int (w n) :: .int (w 0) :: .ref c :: .int (w 0) :: .ref a :: st) μ := by
  obtain ⟨h1, ⟨na, h2, h3⟩, nc, h4, h5⟩ := h
  exact g_copy hl hw h2 h4 h1 h3 h5 hn (by omega) hst hd kk
/-- returns of the three kinds -/
theorem g_retv (hd : decode (mC M) pc = .ok (.return_, 1)) (hv : mT M = none) (hq : Q none μ) : G Γ M d b Q pc ls [] μ := g_ret (v := none) hd ⟨rfl, hv⟩ hq
theorem g_reti {x : Int32} (hd : decode (mC M) pc = .ok (.ireturn, 1)) (hv : mT M = some .int) (hq : Q (some (.int x)) μ) : G Γ M d b Q pc ls [.int x] μ := g_ret (v := some (.int x)) hd ⟨rfl, .int, hv, rfl⟩ hq
theorem g_retz {x : Int32} (hd : decode (mC M) pc = .ok (.ireturn, 1)) (hv : mT M = some .boolean) (hf : x = w 0 ∨ x = w 1) (hq : Q (some (.int x)) μ) : G Γ M d b Q pc ls [.int x] μ := g_ret (v := some (.int x)) hd ⟨rfl, .boolean, hv, (fitv_ok (Or.inr ⟨rfl, hf⟩)).1⟩ hq
theorem g_retl {x : Int64} (hd : decode (mC M) pc = .ok (.lreturn, 1)) (hv : mT M = some .long) (hq : Q (some (.long x)) μ) : G Γ M d b Q pc ls [.long x] μ := g_ret (v := some (.long x)) hd ⟨rfl, hv⟩ hq
end GZ
/-- what is wanted behind a call: an int, a long, nothing -/
def KI (F : Int32 → XM → Prop) : Option Value → XM → Prop := fun v μ => ∃ x, v = some (.int x) ∧ F x μ
def KL (F : Int64 → XM → Prop) : Option Value → XM → Prop := fun v μ => ∃ x, v = some (.long x) ∧ F x μ
def KV (F : XM → Prop) : Option Value → XM → Prop := fun v μ => v = none ∧ F μ
theorem KI.mono {F F' : Int32 → XM → Prop} (h : ∀ x μ, F x μ → F' x μ) : ∀ v μ, KI F v μ → KI F' v μ := fun _ _ ⟨x, e, q⟩ => ⟨x, e, h _ _ q⟩
theorem KL.mono {F F' : Int64 → XM → Prop} (h : ∀ x μ, F x μ → F' x μ) : ∀ v μ, KL F v μ → KL F' v μ := fun _ _ ⟨x, e, q⟩ => ⟨x, e, h _ _ q⟩
theorem KV.mono {F F' : XM → Prop} (h : ∀ μ, F μ → F' μ) : ∀ v μ, KV F v μ → KV F' v μ := fun _ _ ⟨e, q⟩ => ⟨e, h _ q⟩
theorem xR_sR_ne {μ : XM} {a j c k : Nat} {v : Option Nat} (h : k ≠ j) : xR (sR μ a j v) c k = xR μ c k := by
  show up2 _ _ _ _ _ _ = _
  unfold up2
  simp only [if_neg h, ite_self]
  rfl
theorem g_sw {Γ : XG} {M : MM} {d : Nat} {b : Nat × Nat} {Q : Option Value → XM → Prop} {pc : Nat} {ls st : List Value} {μ : XM} {x : Int32} {df : Int} {lo n pd : Nat} {offs : Array Int} {len : Nat} (hd : decode (mC M) pc = .ok (.tableswitch df lo ((lo + n - 1 : Nat) : Int) offs, len)) (hsz : 0 < n) (hpd : (pc : Int) + df = (pd : Int))
    (k0 : (x < w lo ∨ w ((lo + n - 1 : Nat) : Int) < x) → G Γ M d b Q pd ls st μ) (kk : ∀ k, k < n → x = w ((lo + k : Nat) : Int) → ∃ tgt : Nat, ∃ off : Int, offs[k]? = some off ∧ (pc : Int) + off = (tgt : Int) ∧ G Γ M d b Q tgt ls st μ) (hh : lo + n < 1000 := by decide) : G Γ M d b Q pc ls (.int x :: st) μ := by
  have ew : (w ((lo + n - 1 : Nat) : Int)).toInt = ((lo + n - 1 : Nat) : Int) := nI_toInt (by omega)
  have e0 : (w (lo : Int)).toInt = (lo : Int) := nI_toInt (by omega)
  by_cases h1 : x.toInt < lo
  · exact g_swOut hd (Or.inl h1) hpd (k0 (Or.inl (Int32.lt_iff_toInt_lt.mpr (by rw [e0]; exact h1))))
  · by_cases h2 : ((lo + n - 1 : Nat) : Int) < x.toInt
    · exact g_swOut hd (Or.inr h2) hpd (k0 (Or.inr (Int32.lt_iff_toInt_lt.mpr (by rw [ew]; exact h2))))
    · have hx : x = w ((lo + (x.toInt - lo).toNat : Nat) : Int) := by
        apply Int32.toInt_inj.mp
        rw [show w ((lo + (x.toInt - lo).toNat : Nat) : Int) = nI (lo + (x.toInt - lo).toNat) from rfl, nI_toInt (by omega)]
        omega
      obtain ⟨tgt, off, h3, h4, h5⟩ := kk (x.toInt - lo).toNat (by omega) hx
      exact g_swIn hd h1 h2 h3 h4 h5
theorem ar_small {μ : XM} {a t n : Nat} (h : ar μ a t n) : n < 2 ^ 31 := Nat.lt_trans (shp_ty _ _ _ h.1).2 (by decide)
def jmax (x y : Int32) : Int32 := if x < y then y else x
def jmin (x y : Int32) : Int32 := if y < x then y else x
def jmaxL (x y : Int64) : Int64 := if y < x then x else y
def jminL (x y : Int64) : Int64 := if y < x then y else x
section GM
variable {Γ : XG} {M : MM} {d : Nat} {b : Nat × Nat} {Q : Option Value → XM → Prop} {pc : Nat} {ls st : List Value} {μ : XM} {i : Nat}
def Lk_maxI (own i : Nat) : Prop := Cond.methodLink (cnm own) i Lib.Math.max.name ∈ lwG ∧ Cond.static Lib.Math.max.name ∈ lwG ∧ Cond.initialized "java/lang/Math" ∈ lwG ∧ Cond.code Lib.Math.max.name Lib.Math.max.code 2 (some .int) ∈ lwG
theorem g_maxI {x y : Int32} (hL : Lk_maxI (mOwn M) i) (hst : (st.map fun v => v.category).sum ≤ 20) (hd : decode (mC M) pc = .ok (.invokestatic i, 3)) (kk : G Γ M (d + 1) b Q (pc + 3) ls (.int (jmax x y) :: st) μ) : G Γ M (d + 1) b Q pc ls (.int y :: .int x :: st) μ := by
  intro p e R s m args below meth c Z F RX H locs cells slots lsA hR hT hS hLs hc hs
  have e9 : ((st.map (tr Γ)).map fun v => v.category) = st.map fun v => v.category := by
    rw [List.map_map]; apply List.map_congr_left; intro v _; exact tr_cat Γ v
  have h40 := F.2.2.2.2.2.2.2.2.2.2.2
  have h1 := F.2.2.2.2.2.2.2.2.2.2.1
  exact va_mmax F.1 F.2.1 (by rw [F.2.2.2.1]; exact hLs.1.symm) F.2.2.2.2.1 (F.2.2.2.2.2.1 _ hL.1) (F.2.2.2.2.2.1 _ hL.2.1) (F.2.2.2.2.2.1 _ hL.2.2.1) (F.2.2.2.2.2.1 _ hL.2.2.2) (by omega) (by rw [e9]; omega) (by omega) (by omega) hd
    (kk p e R s m args below meth c Z F RX H locs cells slots lsA hR hT hS hLs hc hs)
def Lk_minI (own i : Nat) : Prop := Cond.methodLink (cnm own) i Lib.Math.min.name ∈ lwG ∧ Cond.static Lib.Math.min.name ∈ lwG ∧ Cond.initialized "java/lang/Math" ∈ lwG ∧ Cond.code Lib.Math.min.name Lib.Math.min.code 2 (some .int) ∈ lwG
theorem g_minI {x y : Int32} (hL : Lk_minI (mOwn M) i) (hst : (st.map fun v => v.category).sum ≤ 20) (hd : decode (mC M) pc = .ok (.invokestatic i, 3)) (kk : G Γ M (d + 1) b Q (pc + 3) ls (.int (jmin x y) :: st) μ) : G Γ M (d + 1) b Q pc ls (.int y :: .int x :: st) μ := by
  intro p e R s m args below meth c Z F RX H locs cells slots lsA hR hT hS hLs hc hs
  have e9 : ((st.map (tr Γ)).map fun v => v.category) = st.map fun v => v.category := by
    rw [List.map_map]; apply List.map_congr_left; intro v _; exact tr_cat Γ v
  have h40 := F.2.2.2.2.2.2.2.2.2.2.2
  have h1 := F.2.2.2.2.2.2.2.2.2.2.1
  exact va_mmin F.1 F.2.1 (by rw [F.2.2.2.1]; exact hLs.1.symm) F.2.2.2.2.1 (F.2.2.2.2.2.1 _ hL.1) (F.2.2.2.2.2.1 _ hL.2.1) (F.2.2.2.2.2.1 _ hL.2.2.1) (F.2.2.2.2.2.1 _ hL.2.2.2) (by omega) (by rw [e9]; omega) (by omega) (by omega) hd
    (kk p e R s m args below meth c Z F RX H locs cells slots lsA hR hT hS hLs hc hs)
def Lk_maxL (own i : Nat) : Prop := Cond.methodLink (cnm own) i Lib.MathLoose.max_long.x ∈ lwG ∧ Cond.static Lib.MathLoose.max_long.x ∈ lwG ∧ Cond.initialized "java/lang/Math" ∈ lwG ∧ Cond.code Lib.MathLoose.max_long.x Lib.MathLoose.max_long.code 4 (some .long) ∈ lwG
theorem g_maxL {x y : Int64} (hL : Lk_maxL (mOwn M) i) (hst : (st.map fun v => v.category).sum ≤ 20) (hd : decode (mC M) pc = .ok (.invokestatic i, 3)) (kk : G Γ M (d + 1) b Q (pc + 3) ls (.long (jmaxL x y) :: st) μ) : G Γ M (d + 1) b Q pc ls (.long y :: .long x :: st) μ := by
  intro p e R s m args below meth c Z F RX H locs cells slots lsA hR hT hS hLs hc hs
  have e9 : ((st.map (tr Γ)).map fun v => v.category) = st.map fun v => v.category := by
    rw [List.map_map]; apply List.map_congr_left; intro v _; exact tr_cat Γ v
  have h40 := F.2.2.2.2.2.2.2.2.2.2.2
  have h1 := F.2.2.2.2.2.2.2.2.2.2.1
  exact va_mmax_long F.1 F.2.1 (by rw [F.2.2.2.1]; exact hLs.1.symm) F.2.2.2.2.1 (F.2.2.2.2.2.1 _ hL.1) (F.2.2.2.2.2.1 _ hL.2.1) (F.2.2.2.2.2.1 _ hL.2.2.1) (F.2.2.2.2.2.1 _ hL.2.2.2) (by omega) (by rw [e9]; omega) (by omega) (by omega) hd
    (kk p e R s m args below meth c Z F RX H locs cells slots lsA hR hT hS hLs hc hs)
def Lk_minL (own i : Nat) : Prop := Cond.methodLink (cnm own) i Lib.MathLoose.min_long.x ∈ lwG ∧ Cond.static Lib.MathLoose.min_long.x ∈ lwG ∧ Cond.initialized "java/lang/Math" ∈ lwG ∧ Cond.code Lib.MathLoose.min_long.x Lib.MathLoose.min_long.code 4 (some .long) ∈ lwG
theorem g_minL {x y : Int64} (hL : Lk_minL (mOwn M) i) (hst : (st.map fun v => v.category).sum ≤ 20) (hd : decode (mC M) pc = .ok (.invokestatic i, 3)) (kk : G Γ M (d + 1) b Q (pc + 3) ls (.long (jminL x y) :: st) μ) : G Γ M (d + 1) b Q pc ls (.long y :: .long x :: st) μ := by
  intro p e R s m args below meth c Z F RX H locs cells slots lsA hR hT hS hLs hc hs
  have e9 : ((st.map (tr Γ)).map fun v => v.category) = st.map fun v => v.category := by
    rw [List.map_map]; apply List.map_congr_left; intro v _; exact tr_cat Γ v
  have h40 := F.2.2.2.2.2.2.2.2.2.2.2
  have h1 := F.2.2.2.2.2.2.2.2.2.2.1
  exact va_mmin_long F.1 F.2.1 (by rw [F.2.2.2.1]; exact hLs.1.symm) F.2.2.2.2.1 (F.2.2.2.2.2.1 _ hL.1) (F.2.2.2.2.2.1 _ hL.2.1) (F.2.2.2.2.2.1 _ hL.2.2.1) (F.2.2.2.2.2.1 _ hL.2.2.2) (by omega) (by rw [e9]; omega) (by omega) (by omega) hd
    (kk p e R s m args below meth c Z F RX H locs cells slots lsA hR hT hS hLs hc hs)
end GM
