/-! THE TEXT OF A LAW: the place behind it, its signs, its value; or where it is wrong -/
abbrev LR : Type := Nat ⊕ (Nat × List Int × ((Nat → Int) → Int))
/-- more of the same behind: signs c1, c2 -/
def lgo (tb : Nat → Nat) (n : Nat) (c1 c2 : Int) (P : Nat → LR) : Nat → Nat → List Int → ((Nat → Int) → Int) → LR
  | 0, p, c, g => .inr (sk tb n p, c, g)
  | f + 1, p, c, g => if lk tb n p = c1 ∨ lk tb n p = c2 then
      (match P (sk tb n p + 1) with
      | .inl q => .inl q
      | .inr (p', c', g') => lgo tb n c1 c2 P f p' (c ++ (c' ++ [20000 + lk tb n p])) (fun e => jnd (lk tb n p) (g e) (g' e)))
    else .inr (sk tb n p, c, g)
/-- the place of a letter -/
def lix (c : Int) : Int := sch (fun j => decide (ltr 3 j = c)) 6 0
def lat (tb : Nat → Nat) (n k : Nat) (S : Nat → LR) (p : Nat) : LR :=
  if lk tb n p = 91 then
    (if k = 0 then .inl (sk tb n p) else
      (match S (sk tb n p + 1) with
      | .inl q => .inl q
      | .inr (p', c, g) => if lk tb n p' = 93 then .inr (sk tb n p' + 1, c, g) else .inl (sk tb n p')))
  else if lix (lk tb n p) = -1 then
    (if (nm tb n 4 p).2.2 = 0 ∨ ((nm tb n 4 p).1 < n ∧ 48 ≤ tb (nm tb n 4 p).1 ∧ tb (nm tb n 4 p).1 ≤ 57) then .inl (nm tb n 4 p).1
    else .inr ((nm tb n 4 p).1, [((nm tb n 4 p).2.1 : Int)], fun _ => ((nm tb n 4 p).2.1 : Int)))
  else .inr (sk tb n p + 1, [10000 + lix (lk tb n p)], fun e => e (lix (lk tb n p)).toNat)
def lbeh (tb : Nat → Nat) (n : Nat) (c1 c2 : Int) (P : Nat → LR) (r : LR) : LR := match r with
  | .inl q => .inl q
  | .inr (p, c, g) => lgo tb n c1 c2 P 240 p c g
def ltm (tb : Nat → Nat) (n k : Nat) (S : Nat → LR) (p : Nat) : LR := lbeh tb n 42 47 (lat tb n k S) (lat tb n k S p)
def lsm (tb : Nat → Nat) (n k : Nat) (S : Nat → LR) (p : Nat) : LR := lbeh tb n 43 45 (ltm tb n k S) (ltm tb n k S p)
/-- a sum; k may still be nested -/
def lS (tb : Nat → Nat) (n : Nat) : Nat → Nat → LR
  | 0 => lsm tb n 0 (fun p => .inl p)
  | k + 1 => lsm tb n (k + 1) (lS tb n k)
/-- the rest of a comparison -/
def lcr (tb : Nat → Nat) (n : Nat) (S : Nat → LR) (p : Nat) (c : List Int) (g : (Nat → Int) → Int) : LR :=
  if lk tb n p = 61 ∨ lk tb n p = 60 ∨ lk tb n p = 62 then
    (match S (sk tb n p + 1) with
    | .inl q => .inl q
    | .inr (p', c', g') => .inr (p', c ++ (c' ++ [20000 + lk tb n p]), fun e => jnd (lk tb n p) (g e) (g' e)))
  else .inl (sk tb n p)
def lun (tb : Nat → Nat) (n k : Nat) (S U C : Nat → LR) (p : Nat) : LR :=
  if lk tb n p = 33 then
    (if k = 0 then .inl (sk tb n p) else
      (match U (sk tb n p + 1) with
      | .inl q => .inl q
      | .inr (p', c, g) => .inr (p', c ++ [20033], fun e => 1 - g e)))
  else if lk tb n p = 40 then
    (if k = 0 then .inl (sk tb n p) else
      (match C (sk tb n p + 1) with
      | .inl q => .inl q
      | .inr (p', c, g) => if lk tb n p' = 41 then .inr (sk tb n p' + 1, c, g) else .inl (sk tb n p')))
  else match S (sk tb n p) with
    | .inl q => .inl q
    | .inr (p', c, g) => lcr tb n S p' c g
/-- truths, conditions, from their first unit on -/
def ltw (tb : Nat → Nat) (n : Nat) (U : Nat → LR) (r : LR) : LR := lbeh tb n 38 38 U r
def lcw (tb : Nat → Nat) (n : Nat) (U : Nat → LR) (r : LR) : LR := lbeh tb n 124 124 (fun p => ltw tb n U (U p)) (ltw tb n U r)
def lU (tb : Nat → Nat) (n : Nat) : Nat → Nat → LR
  | 0 => lun tb n 0 (lS tb n 0) (fun p => .inl p) (fun p => .inl p)
  | k + 1 => lun tb n (k + 1) (lS tb n (k + 1)) (lU tb n k) (fun p => lcw tb n (lU tb n k) (lU tb n k p))
def lC (tb : Nat → Nat) (n k p : Nat) : LR := lcw tb n (lU tb n k) (lU tb n k p)
/-- clauses: their value, or none -/
abbrev LO2 : Type := Nat ⊕ (Nat × List Int × ((Nat → Int) → Option Int))
def lct (tb : Nat → Nat) (n : Nat) (r : LR) : LO2 := match r with
  | .inl q => .inl q
  | .inr (p, c, g) => if lk tb n p = 63 then
      (match lS tb n 6 (sk tb n p + 1) with
      | .inl q => .inl q
      | .inr (p', c', g') => .inr (p', c ++ ([20063] ++ c'), fun e => if g e = 0 then none else some (g' e)))
    else .inl (sk tb n p)
def lcs (tb : Nat → Nat) (n p : Nat) : LO2 :=
  if lk tb n p = 33 ∨ lk tb n p = 40 then lct tb n (lC tb n 6 (sk tb n p))
  else match lS tb n 6 (sk tb n p) with
    | .inl q => .inl q
    | .inr (p', c, g) => if lk tb n p' = 61 ∨ lk tb n p' = 60 ∨ lk tb n p' = 62 then lct tb n (lC tb n 6 (sk tb n p)) else .inr (sk tb n p', c, fun e => some (g e))
def lcl (tb : Nat → Nat) (n p : Nat) : LO2 :=
  if lk tb n p = 121 then (if lk tb n (sk tb n p + 1) = 58 then lcs tb n (sk tb n (sk tb n p + 1) + 1) else .inl (sk tb n (sk tb n p + 1))) else .inl (sk tb n p)
/-- all clauses from p on -/
def lla (tb : Nat → Nat) (n : Nat) : Nat → Nat → Nat ⊕ (List Int × ((Nat → Int) → Option Int))
  | 0, p => .inl p
  | f + 1, p => match lcl tb n p with
    | .inl q => .inl q
    | .inr (p', c, g) =>
      if lk tb n p' = -1 then .inr (c ++ [20059], g)
      else if lk tb n p' = 59 then
        (match lla tb n f (sk tb n p' + 1) with
        | .inl q => .inl q
        | .inr (c', g') => .inr (c ++ ([20059] ++ c'), fun e => match g e with
          | some v => some v
          | none => g' e))
      else .inl (sk tb n p')
def law (tb : Nat → Nat) (n : Nat) : Nat ⊕ (List Int × ((Nat → Int) → Option Int)) := lla tb n 241 0
/-! what is known of it -/
theorem lk_lt {tb : Nat → Nat} {n p : Nat} {c : Int} (h : lk tb n p = c) (h0 : 0 ≤ c) : sk tb n p < n := by
  unfold lk ch at h
  split at h
  · assumption
  · omega
theorem sk_le0 (tb : Nat → Nat) {n p : Nat} : p ≤ sk tb n p := (skF_le tb (n - p) p).1
theorem skF_sk (tb : Nat → Nat) : ∀ f p, skF tb f p < p + f → ¬ tb (skF tb f p) = 32
  | 0, p, h => by unfold skF at h; omega
  | f + 1, p, h => by
    unfold skF at h ⊢
    split
    · rename_i e
      rw [if_pos e] at h
      exact skF_sk tb f (p + 1) (by omega)
    · assumption
theorem sk_sk (tb : Nat → Nat) {n p : Nat} (h : p ≤ n) : sk tb n (sk tb n p) = sk tb n p := by
  have h1 := sk_le tb h
  by_cases e : sk tb n p = n
  · rw [e, sk_end]
  · refine sk_nb (by omega) ?_
    have := skF_sk tb (n - p) p (by unfold sk at e h1; omega)
    exact this
theorem lk_sk (tb : Nat → Nat) {n p : Nat} (h : p ≤ n) : lk tb n (sk tb n p) = lk tb n p := by
  unfold lk; rw [sk_sk tb h]
theorem lk_bd {tb : Nat → Nat} {n p : Nat} (hb : ∀ j, j < n → 1 ≤ tb j ∧ tb j ≤ 255) : -1 ≤ lk tb n p ∧ lk tb n p ≤ 255 := by
  unfold lk ch
  split
  · have := hb _ (by assumption); omega
  · omega
/-- letters are within bounds -/
def EV (ev : Nat → Int) : Prop := ∀ j, -1000000 ≤ ev j ∧ ev j ≤ 1000000
/-- the signs at i of cd are c -/
def cat (cd : Nat → Int) : Nat → List Int → Prop
  | _, [] => True
  | i, x :: c => cd i = x ∧ cat cd (i + 1) c
theorem cat_app {cd : Nat → Int} : ∀ (a b : List Int) (i : Nat), cat cd i (a ++ b) → cat cd i a ∧ cat cd (i + a.length) b
  | [], b, i, h => ⟨trivial, h⟩
  | x :: a, b, i, h => by
    obtain ⟨h1, h2⟩ := h
    obtain ⟨h3, h4⟩ := cat_app a b (i + 1) h2
    refine ⟨⟨h1, h3⟩, ?_⟩
    rw [List.length_cons, show i + (a.length + 1) = i + 1 + a.length by omega]
    exact h4
theorem cat_of {cd : Nat → Int} : ∀ (c : List Int) (i : Nat), (∀ j, j < c.length → cd (i + j) = c.getD j 0) → cat cd i c
  | [], _, _ => trivial
  | x :: c, i, h => ⟨by have := h 0 (by simp); simpa using this, cat_of c (i + 1) (fun j hj => by
    have := h (j + 1) (by simp; omega)
    rw [show i + 1 + j = i + (j + 1) by omega, this]
    simp)⟩
/-- the signs c reckon g, with h places of the stack -/
def CG (h : Nat) (c : List Int) (g : (Nat → Int) → Int) : Prop := (∀ x, x ∈ c → CB x ∧ ¬ x = 20059) ∧ ∀ ev, EV ev → (-1000000 ≤ g ev ∧ g ev ≤ 1000000) ∧ ∀ (cd : Nat → Int) (i f t : Nat) (S : Nat → Int), cat cd i c → t + h ≤ 64 → ∃ S' : Nat → Int, (∀ j, j < t → S' j = S j) ∧ S' t = g ev ∧ wst cd ev (c.length + f) i t S false = wst cd ev f (i + c.length) (t + 1) S' false
theorem CG.up {h h' : Nat} {c : List Int} {g : (Nat → Int) → Int} (a : CG h c g) (hh : h ≤ h') : CG h' c g := ⟨a.1, fun ev he => ⟨(a.2 ev he).1, fun cd i f t S hc ht => (a.2 ev he).2 cd i f t S hc (by omega)⟩⟩
theorem CG.num {v : Int} (h0 : 0 ≤ v) (h1 : v < 10000) : CG 1 [v] (fun _ => v) := by
  refine ⟨fun x hx => ?_, fun ev he => ⟨(show -1000000 ≤ v ∧ v ≤ 1000000 by omega), fun cd i f t S hc ht => ⟨ups S t v, fun j hj => by unfold ups; rw [if_neg (by omega)], by unfold ups; rw [if_pos rfl], ?_⟩⟩⟩
  · have := List.mem_singleton.mp hx
    unfold CB
    omega
  · have h2 := hc.1
    rw [show ([v] : List Int).length + f = f + 1 by simp; omega]
    simp only [wst, Bool.false_eq_true, if_false]
    rw [h2, if_pos (by omega), if_neg (by omega), if_pos h1]
    rfl
theorem CG.let {j : Int} (h0 : 0 ≤ j) (h1 : j < 6) : CG 1 [10000 + j] (fun e => e j.toNat) := by
  refine ⟨fun x hx => ?_, fun ev he => ⟨he _, fun cd i f t S hc ht => ⟨ups S t (ev j.toNat), fun j hj => by unfold ups; rw [if_neg (by omega)], by unfold ups; rw [if_pos rfl], ?_⟩⟩⟩
  · have := List.mem_singleton.mp hx
    unfold CB
    omega
  · have h2 := hc.1
    rw [show ([10000 + j] : List Int).length + f = f + 1 by simp; omega]
    simp only [wst, Bool.false_eq_true, if_false]
    rw [h2, if_pos (by omega), if_neg (by omega), if_neg (by omega), show (10000 + j - 10000).toNat = j.toNat by omega]
    rfl
/-- the signs that join two values -/
def JS (s : Int) : Prop := 34 ≤ s ∧ s ≤ 255 ∧ ¬ s = 59 ∧ ¬ s = 63
theorem CG.bin {h1 h2 : Nat} {c1 c2 : List Int} {g1 g2 : (Nat → Int) → Int} {s : Int} (a : CG h1 c1 g1) (b : CG h2 c2 g2) (hs : JS s) (hh : h2 + 1 ≤ h1) : CG h1 (c1 ++ (c2 ++ [20000 + s])) (fun e => jnd s (g1 e) (g2 e)) := by
  obtain ⟨s1, s2, s3, s4⟩ := hs
  refine ⟨fun x hx => ?_, fun ev he => ⟨?_, fun cd i f t S hc ht => ?_⟩⟩
  · rcases List.mem_append.mp hx with h | h
    · exact a.1 x h
    · rcases List.mem_append.mp h with h | h
      · exact b.1 x h
      · have := List.mem_singleton.mp h
        unfold CB
        omega
  · exact clp_bd _
  · obtain ⟨q1, q2⟩ := cat_app _ _ _ hc
    obtain ⟨q3, q4⟩ := cat_app _ _ _ q2
    obtain ⟨S1, e1, e2, e3⟩ := (a.2 ev he).2 cd i (c2.length + (1 + f)) t S q1 ht
    obtain ⟨S2, e4, e5, e6⟩ := (b.2 ev he).2 cd (i + c1.length) (1 + f) (t + 1) S1 q3 (by omega)
    refine ⟨ups S2 t (jnd s (g1 ev) (g2 ev)), fun j hj => ?_, by unfold ups; rw [if_pos rfl], ?_⟩
    · unfold ups
      rw [if_neg (by omega), e4 j (by omega), e1 j hj]
    · rw [show (c1 ++ (c2 ++ [20000 + s])).length + f = c1.length + (c2.length + (1 + f)) by simp; omega, e3, e6]
      rw [show 1 + f = f + 1 by omega]
      have h9 := q4.1
      simp only [wst, Bool.false_eq_true, if_false]
      rw [h9, if_neg (by omega), if_neg (by omega), if_neg (by omega), if_neg (by omega), if_neg (by omega), if_neg (by omega), show t + 1 + 1 - 2 = t by omega, show t + 1 + 1 - 1 = t + 1 by omega, e5, e4 t (by omega), e2, show (20000 : Int) + s - 20000 = s by omega, show i + (c1 ++ (c2 ++ [20000 + s])).length = i + c1.length + c2.length + 1 by simp; omega]
/-- a truth: 0 or 1 -/
def CT (h : Nat) (c : List Int) (g : (Nat → Int) → Int) : Prop := CG h c g ∧ ∀ ev, EV ev → g ev = 0 ∨ g ev = 1
theorem CT.up {h h' : Nat} {c : List Int} {g : (Nat → Int) → Int} (a : CT h c g) (hh : h ≤ h') : CT h' c g := ⟨a.1.up hh, a.2⟩
theorem CT.not {h : Nat} {c : List Int} {g : (Nat → Int) → Int} (a : CT h c g) : CT h (c ++ [20033]) (fun e => 1 - g e) := by
  refine ⟨⟨fun x hx => ?_, fun ev he => ⟨by have := a.2 ev he; show -1000000 ≤ 1 - g ev ∧ 1 - g ev ≤ 1000000; omega, fun cd i f t S hc ht => ?_⟩⟩, fun ev he => by have := a.2 ev he; show 1 - g ev = 0 ∨ 1 - g ev = 1; omega⟩
  · rcases List.mem_append.mp hx with h | h
    · exact a.1.1 x h
    · have := List.mem_singleton.mp h
      unfold CB
      omega
  · obtain ⟨q1, q2⟩ := cat_app _ _ _ hc
    obtain ⟨S1, e1, e2, e3⟩ := (a.1.2 ev he).2 cd i (1 + f) t S q1 ht
    refine ⟨ups S1 t (1 - g ev), fun j hj => ?_, by unfold ups; rw [if_pos rfl], ?_⟩
    · unfold ups
      rw [if_neg (by omega), e1 j hj]
    · rw [show (c ++ ([20033] : List Int)).length + f = c.length + (1 + f) by simp; omega, e3, show 1 + f = f + 1 by omega]
      have h9 := q2.1
      simp only [wst, Bool.false_eq_true, if_false]
      rw [h9, if_neg (by omega), if_neg (by omega), if_neg (by omega), if_pos rfl, show t + 1 - 1 = t by omega, e2, show i + (c ++ ([20033] : List Int)).length = i + c.length + 1 by simp; omega]
theorem jnd_cmp {s a b : Int} (hs : s = 61 ∨ s = 60 ∨ s = 62) : jnd s a b = if (if s = 61 then a = b else if s = 60 then a < b else b < a) then 1 else 0 := by
  rcases hs with rfl | rfl | rfl <;> unfold jnd clp <;> simp <;> split <;> rfl
theorem jnd_and {a b : Int} (ha : a = 0 ∨ a = 1) (hb : b = 0 ∨ b = 1) : jnd 38 a b = if a = 0 then 0 else b := by
  rcases ha with rfl | rfl <;> rcases hb with rfl | rfl <;> decide
theorem jnd_or {a b : Int} (ha : a = 0 ∨ a = 1) (hb : b = 0 ∨ b = 1) : jnd 124 a b = if a = 0 then b else 1 := by
  rcases ha with rfl | rfl <;> rcases hb with rfl | rfl <;> decide
/-- what a result from p on is: within the text, no more signs than bytes, K of its signs -/
def LG (n p : Nat) (K : List Int → ((Nat → Int) → Int) → Prop) (r : LR) : Prop := match r with
  | .inl q => q ≤ n
  | .inr (p', c, g) => p < p' ∧ p' ≤ n ∧ c.length + p ≤ p' ∧ K c g
theorem LG.imp {n p : Nat} {K K' : List Int → ((Nat → Int) → Int) → Prop} {r : LR} (h : LG n p K r) (hK : ∀ c g, K c g → K' c g) : LG n p K' r := by
  match r, h with
  | .inl _, h => exact h
  | .inr (_, c, g), h => exact ⟨h.1, h.2.1, h.2.2.1, hK c g h.2.2.2⟩
theorem LG.le {n p p0 : Nat} {K : List Int → ((Nat → Int) → Int) → Prop} {r : LR} (h : LG n p K r) (hp : p0 ≤ p) : LG n p0 K r := by
  match r, h with
  | .inl _, h => exact h
  | .inr (_, c, g), h => exact ⟨by have := h.1; omega, h.2.1, by have := h.2.2.1; omega, h.2.2.2⟩
section LGs
variable {tb : Nat → Nat} {n : Nat}
theorem lgo_LG {c1 c2 : Int} (h1 : 0 ≤ c1) (h2 : 0 ≤ c2) {P : Nat → LR} {K K0 : List Int → ((Nat → Int) → Int) → Prop} (hP : ∀ p, p ≤ n → LG n p K0 (P p))
    (hK : ∀ s c g c' g', s = c1 ∨ s = c2 → K c g → K0 c' g' → K (c ++ (c' ++ [20000 + s])) (fun e => jnd s (g e) (g' e))) (p0 : Nat) : ∀ f p c g, p0 < p → p ≤ n → c.length + p0 ≤ p → K c g → LG n p0 K (lgo tb n c1 c2 P f p c g)
  | 0, p, c, g, q1, q2, q3, q4 => by
    have := sk_le tb q2
    exact ⟨by omega, by omega, by omega, q4⟩
  | f + 1, p, c, g, q1, q2, q3, q4 => by
    have := sk_le tb q2
    unfold lgo
    by_cases e : lk tb n p = c1 ∨ lk tb n p = c2
    · rw [if_pos e]
      have hlt : sk tb n p < n := by
        rcases e with e | e
        · exact lk_lt e h1
        · exact lk_lt e h2
      have := hP (sk tb n p + 1) (by omega)
      split
      · rename_i q eq
        rw [eq] at this
        exact this
      · rename_i p' c' g' eq
        rw [eq] at this
        obtain ⟨a1, a2, a3, a4⟩ := this
        exact lgo_LG h1 h2 hP hK p0 f p' _ _ (by omega) a2 (by simp; omega) (hK _ _ _ _ _ e q4 a4)
    · rw [if_neg e]
      exact ⟨by omega, by omega, by omega, q4⟩
theorem lbeh_LG {c1 c2 : Int} (h1 : 0 ≤ c1) (h2 : 0 ≤ c2) {P : Nat → LR} {K K0 : List Int → ((Nat → Int) → Int) → Prop} (hP : ∀ p, p ≤ n → LG n p K0 (P p))
    (hK : ∀ s c g c' g', s = c1 ∨ s = c2 → K c g → K0 c' g' → K (c ++ (c' ++ [20000 + s])) (fun e => jnd s (g e) (g' e))) {p : Nat} {r : LR} (h : LG n p K r) : LG n p K (lbeh tb n c1 c2 P r) := by
  match r, h with
  | .inl _, h => exact h
  | .inr (p', c, g), h => exact lgo_LG h1 h2 hP hK p 240 p' c g h.1 h.2.1 h.2.2.1 h.2.2.2
theorem lix_bd (c : Int) : -1 ≤ lix c ∧ lix c < 6 := by
  have := sch_bd (fun j => decide (ltr 3 j = c)) 6 0
  unfold lix
  omega
theorem nm_bd {m p : Nat} (hp : p ≤ n) : sk tb n p ≤ (nm tb n m p).1 ∧ (nm tb n m p).1 ≤ n ∧ (nm tb n m p).2.1 < 10 ^ (nm tb n m p).2.2 ∧ (nm tb n m p).2.2 ≤ m := by
  have h := sk_le tb hp
  have := nmF_le tb n m (sk tb n p) 0 0 h.2 (by decide)
  unfold nm
  omega
theorem nmF_go : ∀ f q v c, q + ((nmF tb n f q v c).2.2 - c) = (nmF tb n f q v c).1 ∧ c ≤ (nmF tb n f q v c).2.2
  | 0, q, v, c => by unfold nmF; exact ⟨by simp, Nat.le_refl _⟩
  | f + 1, q, v, c => by
    unfold nmF
    split
    · have := nmF_go f (q + 1) (10 * v + (tb q - 48)) (c + 1)
      omega
    · exact ⟨by simp, Nat.le_refl _⟩
theorem lat_LG {k h : Nat} {S : Nat → LR} (hS : 0 < k → ∀ p, p ≤ n → LG n p (CG h) (S p)) (hh : 1 ≤ h) (p : Nat) (hp : p ≤ n) : LG n p (CG h) (lat tb n k S p) := by
  have hs := sk_le tb hp
  unfold lat
  by_cases e : lk tb n p = 91
  · rw [if_pos e]
    have hlt := lk_lt e (by decide)
    by_cases e0 : k = 0
    · rw [if_pos e0]
      show sk tb n p ≤ n
      omega
    · rw [if_neg e0]
      have := hS (by omega) (sk tb n p + 1) (by omega)
      split
      · rename_i q eq
        rw [eq] at this
        exact this
      · rename_i p' c' g' eq
        rw [eq] at this
        obtain ⟨a1, a2, a3, a4⟩ := this
        have h2 := sk_le tb a2
        by_cases e1 : lk tb n p' = 93
        · rw [if_pos e1]
          have := lk_lt e1 (by decide)
          exact ⟨by omega, by omega, by omega, a4⟩
        · rw [if_neg e1]
          exact h2.2
  · rw [if_neg e]
    by_cases e1 : lix (lk tb n p) = -1
    · rw [if_pos e1]
      have hb := nm_bd (tb := tb) (m := 4) hp
      have hg := nmF_go (tb := tb) (n := n) 4 (sk tb n p) 0 0
      have h10 : 10 ^ (nm tb n 4 p).2.2 ≤ 10 ^ 4 := Nat.pow_le_pow_right (by decide) hb.2.2.2
      split
      · exact hb.2.1
      · rename_i e2
        unfold nm at hb e2 h10 ⊢
        refine ⟨by omega, hb.2.1, ?_, (CG.num (by omega) (by omega)).up hh⟩
        simp
        omega
    · rw [if_neg e1]
      have hx := lix_bd (lk tb n p)
      have hlt : sk tb n p < n := by
        refine Decidable.byContradiction fun q => e1 ?_
        unfold lk ch
        rw [if_neg q]
        decide
      exact ⟨by omega, by omega, by simp; omega, (CG.let (by omega) (by omega)).up hh⟩
theorem lsm_LG {k h : Nat} {S : Nat → LR} (hS : 0 < k → ∀ p, p ≤ n → LG n p (CG h) (S p)) (hh : 1 ≤ h) (p : Nat) (hp : p ≤ n) : LG n p (CG (h + 2)) (lsm tb n k S p) := by
  have ha := lat_LG (tb := tb) hS hh
  have ht : ∀ p, p ≤ n → LG n p (CG (h + 1)) (ltm tb n k S p) := fun p hp =>
    lbeh_LG (by decide) (by decide) ha (fun s c g c' g' hs a b => CG.bin a b (by unfold JS; omega) (by omega)) ((ha p hp).imp (fun _ _ a => a.up (by omega)))
  exact lbeh_LG (by decide) (by decide) ht (fun s c g c' g' hs a b => CG.bin a b (by unfold JS; omega) (by omega)) ((ht p hp).imp (fun _ _ a => a.up (by omega)))
theorem lS_LG : ∀ (k p : Nat), p ≤ n → LG n p (CG (3 + 2 * k)) (lS tb n k p)
  | 0, p, hp => lsm_LG (h := 1) (fun q => absurd q (by omega)) (by omega) p hp
  | k + 1, p, hp => by
    have := lsm_LG (tb := tb) (k := k + 1) (h := 3 + 2 * k) (fun _ => lS_LG k) (by omega) p hp
    exact this
theorem ite01 (P : Prop) [Decidable P] : (if P then (1 : Int) else 0) = 0 ∨ (if P then (1 : Int) else 0) = 1 := by
  split
  · exact Or.inr rfl
  · exact Or.inl rfl
theorem lcr_LG {h : Nat} {S : Nat → LR} (hS : ∀ p, p ≤ n → LG n p (CG h) (S p)) {p0 p : Nat} {c : List Int} {g : (Nat → Int) → Int} (h0 : p0 < p) (hp : p ≤ n) (hc : c.length + p0 ≤ p) (hg : CG h c g) : LG n p0 (CT (h + 1)) (lcr tb n S p c g) := by
  have hs := sk_le tb hp
  unfold lcr
  by_cases e : lk tb n p = 61 ∨ lk tb n p = 60 ∨ lk tb n p = 62
  · rw [if_pos e]
    have hlt : sk tb n p < n := by
      rcases e with e | e | e
      · exact lk_lt e (by decide)
      · exact lk_lt e (by decide)
      · exact lk_lt e (by decide)
    have := hS (sk tb n p + 1) (by omega)
    split
    · rename_i q eq
      rw [eq] at this
      exact this
    · rename_i p' c' g' eq
      rw [eq] at this
      obtain ⟨a1, a2, a3, a4⟩ := this
      refine ⟨by omega, a2, by simp; omega, CG.bin (hg.up (by omega)) a4 (by unfold JS; omega) (by omega), fun ev he => ?_⟩
      show jnd (lk tb n p) (g ev) (g' ev) = 0 ∨ jnd (lk tb n p) (g ev) (g' ev) = 1
      rw [jnd_cmp e]
      exact ite01 _
  · rw [if_neg e]
    exact hs.2
theorem lun_LG {k h : Nat} {S U C : Nat → LR} (hS : ∀ p, p ≤ n → LG n p (CG h) (S p)) (hU : 0 < k → ∀ p, p ≤ n → LG n p (CT (h + 1)) (U p)) (hC : 0 < k → ∀ p, p ≤ n → LG n p (CT (h + 1)) (C p)) (p : Nat) (hp : p ≤ n) : LG n p (CT (h + 1)) (lun tb n k S U C p) := by
  have hs := sk_le tb hp
  unfold lun
  by_cases e : lk tb n p = 33
  · rw [if_pos e]
    have hlt := lk_lt e (by decide)
    by_cases e0 : k = 0
    · rw [if_pos e0]
      show sk tb n p ≤ n
      omega
    · rw [if_neg e0]
      have := hU (by omega) (sk tb n p + 1) (by omega)
      split
      · rename_i q eq
        rw [eq] at this
        exact this
      · rename_i p' c' g' eq
        rw [eq] at this
        obtain ⟨a1, a2, a3, a4⟩ := this
        exact ⟨by omega, a2, by simp; omega, a4.not⟩
  · rw [if_neg e]
    by_cases e1 : lk tb n p = 40
    · rw [if_pos e1]
      have hlt := lk_lt e1 (by decide)
      by_cases e0 : k = 0
      · rw [if_pos e0]
        show sk tb n p ≤ n
        omega
      · rw [if_neg e0]
        have := hC (by omega) (sk tb n p + 1) (by omega)
        split
        · rename_i q eq
          rw [eq] at this
          exact this
        · rename_i p' c' g' eq
          rw [eq] at this
          obtain ⟨a1, a2, a3, a4⟩ := this
          have h2 := sk_le tb a2
          by_cases e2 : lk tb n p' = 41
          · rw [if_pos e2]
            have := lk_lt e2 (by decide)
            exact ⟨by omega, by omega, by omega, a4⟩
          · rw [if_neg e2]
            exact h2.2
    · rw [if_neg e1]
      have := hS (sk tb n p) hs.2
      split
      · rename_i q eq
        rw [eq] at this
        exact this
      · rename_i p' c' g' eq
        rw [eq] at this
        obtain ⟨a1, a2, a3, a4⟩ := this
        exact lcr_LG hS (by omega) a2 (by omega) a4
theorem ltw_LG {h : Nat} {U : Nat → LR} (hU : ∀ p, p ≤ n → LG n p (CT h) (U p)) {p : Nat} {r : LR} (hr : LG n p (CT h) r) : LG n p (CT (h + 1)) (ltw tb n U r) :=
  lbeh_LG (by decide) (by decide) hU (fun s c g c' g' hs a b => ⟨CG.bin a.1 b.1 (by unfold JS; omega) (by omega), fun ev he => by
    have e : s = 38 := by omega
    have h1 := a.2 ev he
    have h2 := b.2 ev he
    show jnd s (g ev) (g' ev) = 0 ∨ jnd s (g ev) (g' ev) = 1
    rw [e, jnd_and h1 h2]
    split
    · exact Or.inl rfl
    · exact h2⟩) (hr.imp (fun _ _ a => a.up (by omega)))
theorem lcw_LG {h : Nat} {U : Nat → LR} (hU : ∀ p, p ≤ n → LG n p (CT h) (U p)) {p : Nat} {r : LR} (hr : LG n p (CT h) r) : LG n p (CT (h + 2)) (lcw tb n U r) :=
  lbeh_LG (by decide) (by decide) (fun p hp => ltw_LG hU (hU p hp)) (fun s c g c' g' hs a b => ⟨CG.bin a.1 b.1 (by unfold JS; omega) (by omega), fun ev he => by
    have e : s = 124 := by omega
    have h1 := a.2 ev he
    have h2 := b.2 ev he
    show jnd s (g ev) (g' ev) = 0 ∨ jnd s (g ev) (g' ev) = 1
    rw [e, jnd_or h1 h2]
    split
    · exact h2
    · exact Or.inr rfl⟩) ((ltw_LG hU hr).imp (fun _ _ a => a.up (by omega)))
theorem lU_LG : ∀ (k p : Nat), p ≤ n → LG n p (CT (4 + 2 * k)) (lU tb n k p)
  | 0, p, hp => lun_LG (h := 3) (lS_LG 0) (fun q => absurd q (by omega)) (fun q => absurd q (by omega)) p hp
  | k + 1, p, hp => by
    have hU := lU_LG k
    have := lun_LG (tb := tb) (k := k + 1) (h := 3 + 2 * (k + 1)) (U := lU tb n k) (C := fun p => lcw tb n (lU tb n k) (lU tb n k p)) (lS_LG (tb := tb) (k + 1)) (fun _ p hp => (hU p hp).imp (fun _ _ a => a.up (by omega))) (fun _ p hp => (lcw_LG hU (hU p hp)).imp (fun _ _ a => a.up (by omega))) p hp
    rw [show 4 + 2 * (k + 1) = 3 + 2 * (k + 1) + 1 by omega]
    exact this
theorem lC_LG (k p : Nat) (hp : p ≤ n) : LG n p (CT (6 + 2 * k)) (lC tb n k p) := by
  have := lcw_LG (tb := tb) (lU_LG (tb := tb) k) (lU_LG (tb := tb) k p hp)
  rw [show 6 + 2 * k = 4 + 2 * k + 2 by omega]
  exact this
end LGs
