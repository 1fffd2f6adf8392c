/-! ROWS, in the class -/
theorem lst_of : ∀ s : List Nat, s.length = 6 → lst (fun j => s.getD j 0) = s
  | [_, _, _, _, _, _], _ => rfl
theorem lst_get {g : Nat → Nat} {p : Nat} (hp : p < 6) : (lst g).getD p 0 = g p := by
  rcases (show p = 0 ∨ p = 1 ∨ p = 2 ∨ p = 3 ∨ p = 4 ∨ p = 5 by omega) with rfl | rfl | rfl | rfl | rfl | rfl <;> rfl
theorem tot_ext {c : Nat → Nat} {n : Nat} : ∀ m, n ≤ m → (∀ v, n ≤ v → v < m → c v = 0) → tot c m = tot c n
  | 0, h, _ => by rw [show n = 0 by omega]
  | m + 1, h, hz => by
    by_cases e : n = m + 1
    · rw [e]
    · rw [tot, hz m (by omega) (by omega), Nat.add_zero, tot_ext m (by omega) (fun v h1 h2 => hz v h1 (by omega))]
theorem pow_s {z e : Nat} : z / 10 ^ e / 10 = z / 10 ^ (e + 1) := by rw [Nat.div_div_eq_div_mul, Nat.pow_succ]
/-- a row's digits -/
def dgl (a : List Nat) : Int := dgs (fun j => (a.getD j 0 : Nat)) 6
def hfn (i : Int) : List (List Nat) → Nat → Int
  | [], rc => if i = -1 then rc else -1
  | a :: F, rc => if (rc : Int) = i then dgl a else hfn i F (rc + 1)
def sf1 (a : List Nat) : List (List Nat) → (Nat → Bool) → Int32
  | [], e => btw e 6
  | b :: F, e => sf1 a F (fun j => e j && decide (b.getD j 0 = a.getD j 0))
def sf0 : List (List Nat) → Int32
  | [] => w (-1)
  | b :: F => sf1 b F (fun _ => true)
set_option maxRecDepth 100000 in
theorem ib_and : ∀ u, u < 64 → ∀ v, v < 64 → w ((u : Nat) : Int) &&& w ((v : Nat) : Int) = w ((u &&& v : Nat) : Int) ∧ u &&& v < 64 := by decide +kernel
set_option maxRecDepth 100000 in
theorem ib_eq : ∀ u, u < 64 → ∀ v, v < 64 → (∀ i, i < 6 → (u.testBit i = true ↔ v.testBit i = true)) → u = v := by decide +kernel
theorem IBP.uq {x y : Int32} {P : Nat → Prop} (h : IBP x P) (h2 : IBP y P) : x = y := by
  obtain ⟨u, hu, rfl, hP⟩ := h
  obtain ⟨v, hv, rfl, hR⟩ := h2
  rw [ib_eq u hu v hv (fun i hi => (hP i hi).trans (hR i hi).symm)]
theorem IBP.and {x y : Int32} {P R : Nat → Prop} (h : IBP x P) (h2 : IBP y R) : IBP (x &&& y) (fun i => P i ∧ R i) := by
  obtain ⟨u, hu, rfl, hP⟩ := h
  obtain ⟨v, hv, rfl, hR⟩ := h2
  obtain ⟨e1, e2⟩ := ib_and u hu v hv
  exact ⟨u &&& v, e2, e1, fun i hi => by rw [Nat.testBit_and, Bool.and_eq_true, hP i hi, hR i hi]⟩
theorem btw_and (e e' : Nat → Bool) : btw e 6 &&& btw e' 6 = btw (fun j => e j && e' j) 6 :=
  ((btw_ib e 6 (by omega)).and (btw_ib e' 6 (by omega))).uq ((btw_ib _ 6 (by omega)).cg (fun i hi => by
    rw [Bool.and_eq_true]
    exact ⟨fun q => ⟨⟨q.1, q.2.1⟩, ⟨q.1, q.2.2⟩⟩, fun q => ⟨q.1.1, q.1.2, q.2.2⟩⟩))
theorem btw_ne (e : Nat → Bool) : ¬ btw e 6 = w (-1) := fun q => by
  obtain ⟨u, hu, hx, -⟩ := btw_ib e 6 (by omega)
  rw [hx, w_inj (by omega) (by omega) (by omega) (by omega)] at q
  omega
theorem btw_63 : btw (fun _ => true) 6 = w 63 := by decide
section PY
variable {Γ : XG} {d n c : Nat} {fd : Nat → Nat → Int} {g : Nat → Nat} {μ : XM} {Q : Option Value → XM → Prop}
theorem RG.rw (hg : RG μ g) : RW μ 497 (fun j => (g j : Int)) := fun i hi => ⟨(hg i hi).1, by show (0 : Int) ≤ (g i : Int); omega, by have := (hg i hi).2; show (g i : Int) < 6; omega⟩
theorem fit_fts (hD : FD μ c fd) : fit fd (fun j => (g j : Int)) c ↔ fts (fib fd c) 0 (lst g) = true := by
  rw [fits_iff (fd := fd) (c := c) (a := lst g) rfl (fun j hj => by have := hD.2.2 j hj; omega)]
  unfold fit
  refine ⟨fun h j hj => ?_, fun h j hj => ?_⟩
  · have := hD.2.2 j hj
    have h2 := h j hj
    rw [lst_get (by omega)]
    exact ⟨fun q => h2.mp q.symm, fun q => (h2.mpr q).symm⟩
  · have := hD.2.2 j hj
    have h2 := h j hj
    rw [lst_get (by omega)] at h2
    exact ⟨fun q => h2.mp q.symm, fun q => (h2.mpr q).symm⟩
theorem dgl_g : dgl (lst g) = dgs (fun j => (g j : Int)) 6 := rfl
/-- the row is filled from behind: s so far, copies of kind k -/
def RS (μ : XM) (s : List Nat) : Prop := s.length ≤ 6 ∧ ∀ j, j < s.length → xI μ 497 (6 - s.length + j) = w (s.getD j 0)
theorem start_60 (hR : RF μ) {k x2 : Nat} {x3 : Int} (hk : k < 6) {m : Nat} (hm : m ≤ 9) : ∀ (f i : Nat) (s : List Nat) (μ1 : XM), i + f = m → s.length + f ≤ 6 → fof hcr μ μ1 → RS μ1 s → (∀ μ', fof hcr μ μ' → RS μ' (List.replicate f k ++ s) → G Γ m_Pa_startRows (d + 1) (0, 0) Q 21 [.ref 493, jk, .int (w x2), .int (w x3), .int (w ((6 - (f + s.length) : Nat) : Int)), .int (w ((k : Int) - 1))] [] μ') → G Γ m_Pa_startRows (d + 1) (0, 0) Q 60 [.ref 493, jk, .int (w x2), .int (w x3), .int (w ((6 - s.length : Nat) : Int)), .int (w k), .int (w m), .int (w i)] [] μ1 := by
  intro f
  induction f with
  | zero =>
    intro i s μ1 hi hl ho hs hQ
    have R1 := hR.of ho.2.2.1 ho.2.2.2
    refine B_Pa_startRows_60 (R1.o rfl (by omega)) (R1.r 493 3 497 rfl) ?_
    have hh := hQ μ1 ho hs
    rw [w_lt (by omega) (by omega) (by omega) (by omega), show w (k : Int) + w (-1) = w ((k : Int) - 1) by rw [w_add]; rfl]
    rw [Nat.zero_add] at hh
    exact ⟨fun q => absurd q (by omega), fun _ => hh⟩
  | succ f ih =>
    intro i s μ1 hi hl ho hs hQ
    have R1 := hR.of ho.2.2.1 ho.2.2.2
    refine B_Pa_startRows_60 (R1.o rfl (by omega)) (R1.r 493 3 497 rfl) ?_
    rw [w_lt (by omega) (by omega) (by omega) (by omega), w_add, w_add, show ((6 - s.length : Nat) : Int) + -1 = ((6 - (k :: s).length : Nat) : Int) by rw [List.length_cons]; omega, w_cln (by omega)]
    have hl1 : (k :: s).length = s.length + 1 := List.length_cons
    refine ⟨fun _ => ⟨⟨by omega, inb_of sh494.2.2.2.1 (by omega) R1.1 (by omega) (by omega)⟩, ?_⟩, fun q => absurd (by omega) q⟩
    rintro μ2 rfl
    refine ih (i + 1) (k :: s) _ (by omega) (by omega) (ho.trans (fof.sI _ _ _ (Or.inl rfl))) ⟨by omega, fun j hj => ?_⟩ (fun μ' g1 g2 => ?_)
    · rw [xI_sI]
      cases j with
      | zero =>
        rw [if_pos ⟨rfl, by omega⟩]
        rfl
      | succ j =>
        rw [if_neg (by omega), hl1, show 6 - (s.length + 1) + (j + 1) = 6 - s.length + j by omega, hs.2 j (by omega)]
        rfl
    · have e1 : List.replicate f k ++ k :: s = List.replicate (f + 1) k ++ s := by
        rw [List.replicate_succ', List.append_assoc]
        rfl
      rw [e1] at g2
      have := hQ μ' g1 g2
      rw [show f + 1 + s.length = f + (k :: s).length by omega] at this
      exact this
end PY
