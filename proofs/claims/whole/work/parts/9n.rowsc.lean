/-! HOW MANY ROWS; WHICH OF THEM FIT -/
def fct : Nat → Nat
  | 0 => 1
  | r + 1 => (r + 1) * fct r
theorem blk_len {n r F : Nat} {c : Nat → Nat} (hF : ∀ k, k < n → 0 < c k → (prm n r (dck c k)).length ≤ F) : ∀ m, m ≤ n → ((List.range' 0 m).flatMap (blk n r c)).length ≤ tot c m * F
  | 0, _ => by simp
  | m + 1, h => by
    have ih := blk_len hF m (by omega)
    rw [List.range'_concat, List.flatMap_append, List.length_append]
    have e1 : (List.flatMap (blk n r c) [0 + 1 * m]).length = (blk n r c m).length := by
      rw [List.flatMap_cons, List.flatMap_nil, List.append_nil, Nat.zero_add, Nat.one_mul]
    rw [e1]
    unfold tot
    rw [Nat.add_mul]
    have : (blk n r c m).length ≤ c m * F := by
      unfold blk
      by_cases e : c m = 0
      · rw [if_pos e]; exact Nat.zero_le _
      · rw [if_neg e, List.length_map]
        have h1 := hF m (by omega) (by omega)
        exact Nat.le_trans h1 (Nat.le_mul_of_pos_left F (by omega))
    omega
theorem prm_len {n : Nat} : ∀ (r : Nat) (c : Nat → Nat), tot c n = r → (prm n r c).length ≤ fct r := by
  intro r
  induction r with
  | zero =>
    intro c _
    exact Nat.le_refl 1
  | succ r ih =>
    intro c ht
    rw [prm_s]
    have := blk_len (n := n) (r := r) (F := fct r) (c := c) (fun k hk hc => ih _ (by have := tot_dck hc n hk; omega)) n (Nat.le_refl _)
    rw [ht] at this
    exact this
def fts (fit : Nat → Nat → Bool) : Nat → List Nat → Bool
  | _, [] => true
  | i, x :: t => fit i x && fts fit (i + 1) t
def prf (fit : Nat → Nat → Bool) (n : Nat) : Nat → (Nat → Nat) → Nat → List (List Nat)
  | 0, _, _ => [[]]
  | r + 1, c, i => (List.range' 0 n).flatMap (fun k => if c k = 0 ∨ fit i k = false then [] else (prf fit n r (dck c k) (i + 1)).map (List.cons k))
theorem flatMap_cg {α β : Type} {f g : α → List β} : ∀ l : List α, (∀ x, x ∈ l → f x = g x) → l.flatMap f = l.flatMap g
  | [], _ => rfl
  | x :: l, h => by rw [List.flatMap_cons, List.flatMap_cons, h x List.mem_cons_self, flatMap_cg l (fun y hy => h y (List.mem_cons_of_mem _ hy))]
theorem filter_map_cons {p : List Nat → Bool} {k : Nat} {b : Bool} {q : List Nat → Bool} (h : ∀ a, p (k :: a) = (b && q a)) : ∀ L : List (List Nat), (L.map (List.cons k)).filter p = if b = false then [] else (L.filter q).map (List.cons k)
  | [] => by cases b <;> rfl
  | a :: L => by
    rw [List.map_cons, List.filter_cons, h a, filter_map_cons h L, List.filter_cons]
    cases b
    · rfl
    · cases q a <;> rfl
theorem prf_eq {fit : Nat → Nat → Bool} {n : Nat} : ∀ (r : Nat) (c : Nat → Nat) (i : Nat), prf fit n r c i = (prm n r c).filter (fts fit i) := by
  intro r
  induction r with
  | zero =>
    intro c i
    rfl
  | succ r ih =>
    intro c i
    rw [prf, prm, List.filter_flatMap]
    refine flatMap_cg _ (fun k _ => ?_)
    by_cases e : c k = 0
    · rw [if_pos e, if_pos (Or.inl e)]
      rfl
    · rw [if_neg e, filter_map_cons (b := fit i k) (q := fts fit (i + 1)) (fun a => rfl), ih]
      by_cases e2 : fit i k = false
      · rw [if_pos (Or.inr e2), if_pos e2]
      · rw [if_neg (fun z => z.elim e e2), if_neg e2]
/-- kind k at place i does not go against the first j of what was found -/
def fib (fd : Nat → Nat → Int) : Nat → Nat → Nat → Bool
  | 0, _, _ => true
  | j + 1, i, k => fib fd j i k && (decide (¬ fd j 0 = i) || (decide (fd j 1 = k) == decide (fd j 2 = 1)))
theorem fib_iff {fd : Nat → Nat → Int} {i k : Nat} : ∀ j, fib fd j i k = true ↔ ∀ t, t < j → fd t 0 = i → (fd t 1 = k ↔ fd t 2 = 1)
  | 0 => ⟨fun _ t ht => absurd ht (by omega), fun _ => rfl⟩
  | j + 1 => by
    unfold fib
    rw [Bool.and_eq_true, fib_iff j, Bool.or_eq_true, decide_eq_true_iff, beq_iff_eq, decide_eq_decide]
    refine ⟨fun h t ht hi => ?_, fun h => ⟨fun t ht => h t (by omega), ?_⟩⟩
    · by_cases e : t = j
      · subst e
        rcases h.2 with q | q
        · exact absurd hi q
        · exact q
      · exact h.1 t (by omega) hi
    · by_cases e : fd j 0 = i
      · exact Or.inr (h j (by omega) e)
      · exact Or.inl e
theorem fts_iff {fit : Nat → Nat → Bool} : ∀ (a : List Nat) (i : Nat), fts fit i a = true ↔ ∀ j, j < a.length → fit (i + j) (a.getD j 0) = true
  | [], i => ⟨fun _ j hj => absurd hj (Nat.not_lt_zero _), fun _ => rfl⟩
  | x :: t, i => by
    rw [fts, Bool.and_eq_true, fts_iff t (i + 1)]
    refine ⟨fun h j hj => ?_, fun h => ⟨?_, fun j hj => ?_⟩⟩
    · cases j with
      | zero => exact h.1
      | succ j =>
        have := h.2 j (by rw [List.length_cons] at hj; omega)
        rw [show i + 1 + j = i + (j + 1) by omega] at this
        exact this
    · exact h 0 (by rw [List.length_cons]; omega)
    · have := h (j + 1) (by rw [List.length_cons]; omega)
      rw [show i + 1 + j = i + (j + 1) by omega]
      exact this
/-- all of what was found fits the row -/
theorem fits_iff {fd : Nat → Nat → Int} {c : Nat} {a : List Nat} (ha : a.length = 6) (hd : ∀ j, j < c → 0 ≤ fd j 0 ∧ fd j 0 < 6) : fts (fib fd c) 0 a = true ↔ ∀ j, j < c → (fd j 1 = (a.getD (fd j 0).toNat 0 : Nat) ↔ fd j 2 = 1) := by
  rw [fts_iff]
  refine ⟨fun h j hj => ?_, fun h i hi => ?_⟩
  · have hb := hd j hj
    have := (fib_iff c).mp (h (fd j 0).toNat (by omega)) j hj (by omega)
    exact this
  · refine (fib_iff c).mpr (fun t ht e => ?_)
    have := h t ht
    rw [e] at this
    rw [show ((0 + i : Nat) : Int).toNat = i by omega] at this
    exact this
/-- how many of kind k the digits z tell -/
def hcn (z k : Nat) : Nat := z / 10 ^ (5 - k) % 10
/-- the digits tell rows of n kinds -/
def HC (n z : Nat) : Prop := z ≤ 999999 ∧ (∀ k, n ≤ k → k < 6 → hcn z k = 0) ∧ tot (hcn z) 6 = 6
def dgt : List Nat → Nat → Nat
  | [], d => d
  | x :: t, d => dgt t (10 * d + x)
/-- the places where a row is as b -/
def mkb (a b : List Nat) : Nat → Nat
  | 0 => 0
  | j + 1 => mkb a b j + if a.getD j 0 = b.getD j 0 then 2 ^ j else 0
