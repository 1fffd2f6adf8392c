/-! ROWS OF SO MANY OF EACH KIND, rising -/
def dck (c : Nat → Nat) (k : Nat) : Nat → Nat := fun j => if j = k then c j - 1 else c j
def prm (n : Nat) : Nat → (Nat → Nat) → List (List Nat)
  | 0, _ => [[]]
  | r + 1, c => (List.range' 0 n).flatMap (fun k => if c k = 0 then [] else (prm n r (dck c k)).map (List.cons k))
def tot (c : Nat → Nat) : Nat → Nat
  | 0 => 0
  | n + 1 => tot c n + c n
def pck (x : Nat) : List Nat → Option (Nat × List Nat)
  | [] => none
  | y :: t => match pck x t with
    | some p => some (p.1, y :: p.2)
    | none => if x < y then some (y, x :: t) else none
def nxl : List Nat → Option (List Nat)
  | [] => none
  | x :: t => match nxl t with
    | some t' => some (x :: t')
    | none => match pck x t with
      | some p => some (p.1 :: p.2.reverse)
      | none => none
theorem tot_same {c c' : Nat → Nat} : ∀ n, (∀ j, j < n → c j = c' j) → tot c n = tot c' n
  | 0, _ => rfl
  | n + 1, h => by unfold tot; rw [tot_same n (fun j hj => h j (by omega)), h n (by omega)]
theorem tot_dck {c : Nat → Nat} {k : Nat} (hc : 0 < c k) : ∀ n, k < n → tot (dck c k) n + 1 = tot c n
  | 0, h => absurd h (by omega)
  | n + 1, h => by
    unfold tot
    by_cases e : k = n
    · subst e
      rw [tot_same (c := dck c k) (c' := c) k (fun j hj => by unfold dck; rw [if_neg (by omega)])]
      have : dck c k k = c k - 1 := by unfold dck; rw [if_pos rfl]
      omega
    · have := tot_dck hc n (by omega)
      have h2 : dck c k n = c n := by unfold dck; rw [if_neg (by omega)]
      omega
theorem tot_0 {c : Nat → Nat} : ∀ n, tot c n = 0 → ∀ v, v < n → c v = 0
  | 0, _, v, hv => absurd hv (by omega)
  | n + 1, h, v, hv => by
    unfold tot at h
    by_cases e : v = n
    · subst e; omega
    · exact tot_0 n (by omega) v (by omega)
theorem tot_ge {c : Nat → Nat} : ∀ n v, v < n → c v ≤ tot c n
  | 0, v, hv => absurd hv (by omega)
  | n + 1, v, hv => by
    unfold tot
    by_cases e : v = n
    · subst e; omega
    · have := tot_ge (c := c) n v (by omega)
      omega
/-- a holds so many of each -/
def PC (n : Nat) (c : Nat → Nat) (a : List Nat) : Prop := ∀ v, a.count v = if v < n then c v else 0
theorem PC.cons {n : Nat} {c : Nat → Nat} {k : Nat} {a : List Nat} (hk : k < n) (hc : 0 < c k) (h : PC n (dck c k) a) : PC n c (k :: a) := fun v => by
  rw [List.count_cons, h v]
  unfold dck
  by_cases e : v = k
  · subst e
    rw [if_pos hk, if_pos rfl, if_pos hk]
    simp
    omega
  · rw [if_neg e]
    have : ¬ (k == v) = true := by simp; omega
    rw [if_neg this]
    rfl
theorem prm_mem {n : Nat} : ∀ (r : Nat) (c : Nat → Nat), tot c n = r → ∀ a, a ∈ prm n r c → PC n c a ∧ a.length = r := by
  intro r
  induction r with
  | zero =>
    intro c ht a ha
    unfold prm at ha
    rw [List.mem_singleton] at ha
    subst ha
    refine ⟨fun v => ?_, rfl⟩
    by_cases e : v < n
    · rw [if_pos e, tot_0 n ht v e]; rfl
    · rw [if_neg e]; rfl
  | succ r ih =>
    intro c ht a ha
    unfold prm at ha
    rw [List.mem_flatMap] at ha
    obtain ⟨k, hk, ha⟩ := ha
    have hk' : k < n := by
      have := List.mem_range'_1.mp hk
      omega
    by_cases e : c k = 0
    · rw [if_pos e] at ha
      exact absurd ha (List.not_mem_nil)
    · rw [if_neg e, List.mem_map] at ha
      obtain ⟨b, hb, rfl⟩ := ha
      have hd := tot_dck (c := c) (k := k) (by omega) n hk'
      obtain ⟨g1, g2⟩ := ih (dck c k) (by omega) b hb
      exact ⟨g1.cons hk' (by omega), by rw [List.length_cons, g2]⟩
theorem pck_no {x : Nat} : ∀ t : List Nat, (∀ y, y ∈ t → ¬ x < y) → pck x t = none
  | [], _ => rfl
  | y :: t, h => by
    unfold pck
    rw [pck_no t (fun z hz => h z (List.mem_cons_of_mem _ hz))]
    exact if_neg (h y List.mem_cons_self)
theorem pck_yes {x : Nat} : ∀ t : List Nat, t.Pairwise (fun a b => b ≤ a) → (∃ y, y ∈ t ∧ x < y) → ∃ z t', pck x t = some (z, t') ∧ x < z ∧ z ∈ t ∧ (∀ y, y ∈ t → x < y → z ≤ y) ∧ t'.Pairwise (fun a b => b ≤ a) ∧ (z :: t').Perm (x :: t)
  | [], _, ⟨y, hy, _⟩ => absurd hy List.not_mem_nil
  | y :: t, hp, ⟨q, hq, hx⟩ => by
    rw [List.pairwise_cons] at hp
    by_cases e : ∃ y', y' ∈ t ∧ x < y'
    · obtain ⟨z, t', g1, g2, g3, g4, g5, g6⟩ := pck_yes t hp.2 e
      obtain ⟨y', h1, h2⟩ := e
      have hy' := hp.1 y' h1
      refine ⟨z, y :: t', ?_, g2, List.mem_cons_of_mem _ g3, fun v hv hxv => ?_, ?_, ?_⟩
      · unfold pck
        rw [g1]
      · rcases List.mem_cons.mp hv with rfl | hv
        · exact hp.1 z g3
        · exact g4 v hv hxv
      · rw [List.pairwise_cons]
        refine ⟨fun v hv => ?_, g5⟩
        have : v ∈ x :: t := g6.subset (List.mem_cons_of_mem _ hv)
        rcases List.mem_cons.mp this with rfl | hv
        · omega
        · exact hp.1 v hv
      · exact ((List.Perm.swap y z t').trans (List.Perm.cons y g6)).trans (List.Perm.swap x y t)
    · have hn : ∀ v, v ∈ t → ¬ x < v := fun v hv hx => e ⟨v, hv, hx⟩
      have hy : x < y := by
        rcases List.mem_cons.mp hq with rfl | hq
        · exact hx
        · exact absurd hx (hn q hq)
      refine ⟨y, x :: t, ?_, hy, List.mem_cons_self, fun v hv hxv => ?_, ?_, List.Perm.swap x y t⟩
      · unfold pck
        rw [pck_no t hn]
        exact if_pos hy
      · rcases List.mem_cons.mp hv with rfl | hv
        · exact Nat.le_refl _
        · exact absurd hxv (hn v hv)
      · rw [List.pairwise_cons]
        exact ⟨fun v hv => by have := hn v hv; omega, hp.2⟩
theorem nxl_no : ∀ a : List Nat, nxl a = none → a.Pairwise (fun a b => b ≤ a)
  | [], _ => List.Pairwise.nil
  | x :: t, h => by
    unfold nxl at h
    cases e : nxl t with
    | some t' => rw [e] at h; exact nomatch h
    | none =>
      rw [e] at h
      have ht := nxl_no t e
      rw [List.pairwise_cons]
      refine ⟨fun y hy => ?_, ht⟩
      by_cases q : x < y
      · obtain ⟨z, t', g1, -⟩ := pck_yes t ht ⟨y, hy, q⟩
        rw [g1] at h
        exact nomatch h
      · omega
theorem nxl_1 {x : Nat} {t t' : List Nat} (h : nxl t = some t') : nxl (x :: t) = some (x :: t') := by
  rw [nxl, h]
theorem nxl_2 {x z : Nat} {t t' : List Nat} (h : nxl t = none) (h2 : pck x t = some (z, t')) : nxl (x :: t) = some (z :: t'.reverse) := by
  rw [nxl, h, h2]
theorem nxl_3 {x : Nat} {t : List Nat} (h : nxl t = none) (h2 : pck x t = none) : nxl (x :: t) = none := by
  rw [nxl, h, h2]
def cnx (a : List Nat) : List (List Nat) → Prop
  | [] => nxl a = none
  | b :: _ => nxl a = some b
def chn : List (List Nat) → Prop
  | [] => True
  | a :: L => cnx a L ∧ chn L
theorem chn_map {k : Nat} {X : List (List Nat)} (hX : chn X) : ∀ L : List (List Nat), chn L → (∀ a, a ∈ L → nxl a = none → cnx (k :: a) X) → chn (L.map (List.cons k) ++ X)
  | [], _, _ => hX
  | [a], h, hc => ⟨hc a List.mem_cons_self h.1, hX⟩
  | a :: b :: t, h, hc => ⟨nxl_1 h.1, chn_map hX (b :: t) h.2 (fun v hv => hc v (List.mem_cons_of_mem _ hv))⟩
theorem asc_uq {a b : List Nat} (ha : a.Pairwise (fun x y => x ≤ y)) (hb : b.Pairwise (fun x y => x ≤ y)) (h : ∀ v, a.count v = b.count v) : a = b :=
  List.Perm.eq_of_pairwise (le := fun x y => x ≤ y) (fun x y _ _ h1 h2 => Nat.le_antisymm h1 h2) ha hb (List.perm_iff_count.mpr h)
