/-! CONSTRUCTORS: helpers -/
abbrev RI4 : Type := Nat → Nat → Int32
abbrev RJ : Type := Nat → Nat → Int64
abbrev RR : Type := Nat → Nat → Option Nat
/-- from n on the memory is laid to none -/
def Zr (μ : XM) (n : Nat) : Prop := ∀ c, n ≤ c → zc μ c
theorem up2_out {α : Type} {f : Nat → Nat → α} {a k c j : Nat} {v : α} (h : ¬ c = a) : up2 f a k v c j = f c j := if_neg h
theorem up2_in {α : Type} {f : Nat → Nat → α} {a k : Nat} {v : α} : up2 f a k v a k = v := by
  unfold up2; rw [if_pos rfl, if_pos rfl]
theorem up2_nk {α : Type} {f : Nat → Nat → α} {a k c j : Nat} {v : α} (h : ¬ j = k) : up2 f a k v c j = f c j := by
  unfold up2; rw [if_neg h, ite_self]
theorem Zr.f {I : RI4} {L : RJ} {R R' : RR} {e e' n n' : Nat} (hf : ∀ c, n' ≤ c → ∀ j, R' c j = R c j) (hn : n ≤ n') (h : Zr (I, L, R, e) n) : Zr (I, L, R', e') n' := fun c hc j => by
  obtain ⟨h1, h2, h3⟩ := h c (by omega) j
  exact ⟨h1, h2, (hf c hc j).trans h3⟩
theorem Zr.i {I : RI4} {L : RJ} {R : RR} {e e' n n' a k : Nat} {v : Int32} (ha : a < n') (hn : n ≤ n') (h : Zr (I, L, R, e) n) : Zr (up2 I a k v, L, R, e') n' := fun c hc j => by
  obtain ⟨h1, h2, h3⟩ := h c (by omega) j
  exact ⟨(up2_out (by omega)).trans h1, h2, h3⟩
theorem Zr.fi {I : RI4} {L : RJ} {R R' : RR} {e e' n n' a k : Nat} {v : Int32} (hf : ∀ c, n' ≤ c → ∀ j, R' c j = R c j) (ha : a < n') (hn : n ≤ n') (h : Zr (I, L, R, e) n) : Zr (up2 I a k v, L, R', e') n' := fun c hc j => by
  obtain ⟨h1, h2, h3⟩ := h c (by omega) j
  exact ⟨(up2_out (by omega)).trans h1, h2, (hf c hc j).trans h3⟩
/-- the places of a point to the cells behind it -/
def tR (a n : Nat) (R : RR) : RR := fun c j => if c = a ∧ j < n then some (a + 1 + j) else R c j
theorem tR_ne {a n c j : Nat} {R : RR} (h : ¬ c = a) : tR a n R c j = R c j := if_neg (fun q => h q.1)
theorem tR_in {a n j : Nat} {R : RR} (h : j < n) : tR a n R a j = some (a + 1 + j) := if_pos ⟨rfl, h⟩
def pR (a : Nat) (R : RR) : RR := up2 (up2 (up2 (up2 R a 0 (some (a + 1))) a 1 (some (a + 2))) a 2 (some (a + 3))) a 3 (some (a + 4))
theorem pR_ne {a c j : Nat} {R : RR} (h : ¬ c = a) : pR a R c j = R c j := by
  unfold pR; rw [up2_out h, up2_out h, up2_out h, up2_out h]
theorem pR_cg {a j : Nat} {R R' : RR} (h : R a j = R' a j) : pR a R a j = pR a R' a j := by
  unfold pR up2; rw [h]
theorem pR_0 {a : Nat} {R : RR} : pR a R a 0 = some (a + 1) := by
  unfold pR; rw [up2_nk (by decide), up2_nk (by decide), up2_nk (by decide), up2_in]
theorem pR_1 {a : Nat} {R : RR} : pR a R a 1 = some (a + 2) := by
  unfold pR; rw [up2_nk (by decide), up2_nk (by decide), up2_in]
theorem pR_2 {a : Nat} {R : RR} : pR a R a 2 = some (a + 3) := by
  unfold pR; rw [up2_nk (by decide), up2_in]
theorem pR_3 {a : Nat} {R : RR} : pR a R a 3 = some (a + 4) := by
  unfold pR; rw [up2_in]
def lR (a : Nat) (R : RR) : RR := up2 (up2 (up2 R a 0 (some (a + 1))) a 1 (some (a + 2))) a 2 (some (a + 3))
theorem lR_ne {a c j : Nat} {R : RR} (h : ¬ c = a) : lR a R c j = R c j := by
  unfold lR; rw [up2_out h, up2_out h, up2_out h]
theorem lR_0 {a : Nat} {R : RR} : lR a R a 0 = some (a + 1) := by
  unfold lR; rw [up2_nk (by decide), up2_nk (by decide), up2_in]
theorem lR_1 {a : Nat} {R : RR} : lR a R a 1 = some (a + 2) := by
  unfold lR; rw [up2_nk (by decide), up2_in]
theorem lR_2 {a : Nat} {R : RR} : lR a R a 2 = some (a + 3) := by
  unfold lR; rw [up2_in]
def hR (h : Nat) (R : RR) : RR := up2 (pR (h + 10) (up2 (up2 (tR (h + 2) 6 (up2 R h 0 (some (h + 1)))) h 1 (some (h + 2))) h 2 (some (h + 9)))) h 3 (some (h + 10))
theorem hR_ne {h c j : Nat} {R : RR} (q : c < h ∨ h + 11 ≤ c) : hR h R c j = R c j := by
  unfold hR; rw [up2_out (by omega), pR_ne (by omega), up2_out (by omega), up2_out (by omega), tR_ne (by omega), up2_out (by omega)]
def mgR (a : Nat) (R : RR) : RR := up2 (tR (a + 1) 100 R) a 0 (some (a + 1))
theorem mgR_ne {a c j : Nat} {R : RR} (h : c < a ∨ a + 2 ≤ c) : mgR a R c j = R c j := by
  unfold mgR; rw [up2_out (by omega), tR_ne (by omega)]
theorem mgR_0 {a : Nat} {R : RR} : mgR a R a 0 = some (a + 1) := up2_in
theorem mgR_i {a i : Nat} {R : RR} (h : i < 100) : mgR a R (a + 1) i = some (a + 2 + i) := by
  unfold mgR; rw [up2_out (by omega), tR_in h]
/-- the acts, i of them -/
def acR (R : RR) : Nat → RR
  | 0 => R
  | i + 1 => up2 (pR (80 + 5 * i) (acR R i)) 78 i (some (80 + 5 * i))
/-- laws and plans -/
def vR (R : RR) : Nat → RR
  | 0 => R
  | i + 1 => up2 (pR (506 + 9 * i) (up2 (lR (502 + 9 * i) (vR R i)) 65 i (some (502 + 9 * i)))) 66 i (some (506 + 9 * i))
theorem acR_ne {R : RR} {c j : Nat} : ∀ i, (c < 78 ∨ c = 79 ∨ 80 + 5 * i ≤ c) → acR R i c j = R c j
  | 0, _ => rfl
  | i + 1, h => by
    show up2 _ _ _ _ _ _ = _
    rw [up2_out (by omega), pR_ne (by omega)]
    exact acR_ne i (by omega)
theorem acR_78 {R : RR} {q : Nat} : ∀ i, q < i → acR R i 78 q = some (80 + 5 * q)
  | 0, h => by omega
  | i + 1, h => by
    show up2 _ _ _ _ _ _ = _
    by_cases e : q = i
    · rw [e, up2_in]
    · rw [up2_nk e, pR_ne (by omega)]
      exact acR_78 i (by omega)
theorem acR_p {R : RR} {q j : Nat} : ∀ i, q < i → acR R i (80 + 5 * q) j = pR (80 + 5 * q) (fun _ _ => R (80 + 5 * q) j) (80 + 5 * q) j
  | 0, h => by omega
  | i + 1, h => by
    show up2 _ _ _ _ _ _ = _
    rw [up2_out (by omega)]
    by_cases e : q = i
    · subst e
      unfold pR up2
      rw [acR_ne q (by omega)]
    · rw [pR_ne (by omega)]
      exact acR_p i (by omega)
theorem vR_ne {R : RR} {c j : Nat} : ∀ i, (c < 65 ∨ (66 < c ∧ c < 502) ∨ 502 + 9 * i ≤ c) → vR R i c j = R c j
  | 0, _ => rfl
  | i + 1, h => by
    show up2 _ _ _ _ _ _ = _
    rw [up2_out (by omega), pR_ne (by omega), up2_out (by omega), lR_ne (by omega)]
    exact vR_ne i (by omega)
theorem vR_65 {R : RR} {q : Nat} : ∀ i, q < i → vR R i 65 q = some (502 + 9 * q)
  | 0, h => by omega
  | i + 1, h => by
    show up2 _ _ _ _ _ _ = _
    rw [up2_out (by omega), pR_ne (by omega)]
    by_cases e : q = i
    · rw [e, up2_in]
    · rw [up2_nk e, lR_ne (by omega)]
      exact vR_65 i (by omega)
theorem vR_66 {R : RR} {q : Nat} : ∀ i, q < i → vR R i 66 q = some (506 + 9 * q)
  | 0, h => by omega
  | i + 1, h => by
    show up2 _ _ _ _ _ _ = _
    by_cases e : q = i
    · rw [e, up2_in]
    · rw [up2_nk e, pR_ne (by omega), up2_out (by omega), lR_ne (by omega)]
      exact vR_66 i (by omega)
theorem vR_l {R : RR} {q j : Nat} : ∀ i, q < i → vR R i (502 + 9 * q) j = lR (502 + 9 * q) (fun _ _ => R (502 + 9 * q) j) (502 + 9 * q) j
  | 0, h => by omega
  | i + 1, h => by
    show up2 _ _ _ _ _ _ = _
    rw [up2_out (by omega), pR_ne (by omega), up2_out (by omega)]
    by_cases e : q = i
    · subst e
      unfold lR up2
      rw [vR_ne q (by omega)]
    · rw [lR_ne (by omega)]
      exact vR_l i (by omega)
theorem vR_p {R : RR} {q j : Nat} : ∀ i, q < i → vR R i (506 + 9 * q) j = pR (506 + 9 * q) (fun _ _ => R (506 + 9 * q) j) (506 + 9 * q) j
  | 0, h => by omega
  | i + 1, h => by
    show up2 _ _ _ _ _ _ = _
    rw [up2_out (by omega)]
    by_cases e : q = i
    · subst e
      exact pR_cg (by rw [up2_out (by omega), lR_ne (by omega), vR_ne q (by omega)])
    · rw [pR_ne (by omega), up2_out (by omega), lR_ne (by omega)]
      exact vR_p i (by omega)
set_option maxRecDepth 100000 in
theorem hwO : Cond.instanceMethod Lib.objectInit ∈ lwG ∧ Cond.code Lib.objectInit ⟨#[0xb1]⟩ 1 none ∈ lwG := ⟨(lwG_in (List.mem_of_getElem? (i := 142) rfl) rfl), (lwG_in (List.mem_of_getElem? (i := 143) rfl) rfl)⟩
set_option maxRecDepth 100000 in
theorem acl_0 : Cond.arrayClass .int ∈ lwG := (lwG_in (List.mem_of_getElem? (i := 166) rfl) rfl)
set_option maxRecDepth 100000 in
theorem acl_1 : Cond.arrayClass .byte ∈ lwG := (lwG_in (List.mem_of_getElem? (i := 1375) rfl) rfl)
set_option maxRecDepth 100000 in
theorem acl_2 : Cond.arrayClass .boolean ∈ lwG := (lwG_in (List.mem_of_getElem? (i := 347) rfl) rfl)
set_option maxRecDepth 100000 in
theorem acl_4 : Cond.arrayClass .long ∈ lwG := (lwG_in (List.mem_of_getElem? (i := 1376) rfl) rfl)
def fldF (own ci k : Nat) : Bool := match clT[ci]? with
  | some r => decide (k < r.2.2) && (r.2.1 k).2.2.2 && decide ((r.2.1 k).1 = cnm own)
  | none => false
theorem fldF_ok {own ci k : Nat} (h : fldF own ci k = true) : ∀ r, clT[ci]? = some r → k < r.2.2 ∧ (r.2.1 k).2.2.2 = true ∧ (r.2.1 k).1 = cnm own := by
  intro r hr
  unfold fldF at h
  rw [hr] at h
  simp only [Bool.and_eq_true, decide_eq_true_eq] at h
  exact ⟨h.1.1, h.1.2, h.2⟩
/-- this place stores a reference to an object or an array -/
def pfo (M : MM) (pc i ci k : Nat) : Bool := flT.contains (mOwn M, i, ci, k) && decide (kdT (tyT ci k) = 2) && (fldW ci k || (fldF (mOwn M) ci k && decide ((mY M).name = "<init>"))) && decide (decode (mC M) pc = .ok (.putfield i, 3))
theorem g_pf {Γ : XG} {M : MM} {d : Nat} {b : Nat × Nat} {Q : Option Value → XM → Prop} {pc i ci k a v : Nat} {ls st : List Value} {μ : XM} (h : pfo M pc i ci k = true) (ho : ob μ a ci) (kk : G Γ M d b Q (pc + 3) ls st (sR μ a k (some v))) : G Γ M d b Q pc ls (.ref v :: .ref a :: st) μ := by
  unfold pfo at h
  simp only [Bool.and_eq_true, Bool.or_eq_true, decide_eq_true_eq] at h
  obtain ⟨⟨⟨h1, h2⟩, h3⟩, h4⟩ := h
  rcases h3 with h3 | ⟨h3, h5⟩
  · exact g_putr (mem_of_con h1) (fldW_ok h3) h2 h4 ho kk
  · exact g_putrF (mem_of_con h1) (fldF_ok h3) h5 h2 h4 ho kk
