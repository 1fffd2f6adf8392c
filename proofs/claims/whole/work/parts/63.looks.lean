/-! LOOKS AT A NAMELESS THING -/
/-- what the static tables hold -/
def sT (a j : Nat) : Option Int :=
  ((match a with
  | 0 => [40, 9, 6, 1] | 1 => [0, 3, 12, 3, 6] | 2 => [0, 2, 0, 0] | 3 => [97, 111, 110, 121, 107, 109] | 4 => [114, 104, 108, 101] | 5 => [1, 0, 1, 0] | 6 => [99, 24, 99, 5] | 7 => [99, 119, 111, 112, 103] | 8 => [0, 1, 1, 0, 0] | 9 => [5, 9, 36, 9, 6] | 10 => [107, 110, 97, 108] | 11 => [0, 1, 0, 0] | 12 => [5, 9, 99, 1] | 13 => [112, 116, 108, 109, 99]
  | _ => ([] : List Int)))[j]?
def ST (μ : XM) : Prop := ∀ a j v, sT a j = some v → xI μ a j = w v
theorem ST.fof {P : Nat → Prop} {μ μ' : XM} (h : ST μ) (ho : fof P μ μ') (hp : ∀ c, c < 14 → ¬ P c) : ST μ' := fun a j v e => by
  have ha : a < 14 := by
    refine Decidable.byContradiction fun q => ?_
    unfold sT at e
    split at e <;> first | omega | simp at e
  rw [ho.1 a (hp a ha)]
  exact h a j v e
def LO (lo : Nat → Nat → Int) (i : Nat) : Prop := 0 ≤ lo i 0 ∧ lo i 0 ≤ 1 ∧ 0 ≤ lo i 1 ∧ lo i 1 ≤ 9
/-- c looks lo -/
def LK (μ : XM) (c : Nat) (lo : Nat → Nat → Int) : Prop := c ≤ 12 ∧ xI μ 490 2 = w c ∧ ∀ i, i < c → xI μ 491 i = w (lo i 0) ∧ xI μ 492 i = w (lo i 1) ∧ LO lo i
theorem LK.fof {P : Nat → Prop} {μ μ' : XM} {c : Nat} {lo : Nat → Nat → Int} (h : LK μ c lo) (ho : fof P μ μ') (hp : ¬ P 490 ∧ ¬ P 491 ∧ ¬ P 492) : LK μ' c lo := ⟨h.1, by rw [ho.1 490 hp.1]; exact h.2.1, fun i hi => by rw [ho.1 491 hp.2.1, ho.1 492 hp.2.2]; exact h.2.2 i hi⟩
/-- how likely kind k is, of the first i looks -/
def hld (ru : Nat → Int) (ki lo : Nat → Nat → Int) (k : Nat) : Nat → Int
  | 0 => 1
  | i + 1 => hld ru ki lo k i * (if ki k (lo i 0).toNat = lo i 1 then 10 - ru 3 else ru 3)
theorem hld_bd {ru : Nat → Int} {ki lo : Nat → Nat → Int} {k : Nat} (h0 : 0 ≤ ru 3) (h1 : ru 3 ≤ 5) : ∀ i, 0 ≤ hld ru ki lo k i ∧ hld ru ki lo k i ≤ ((10 ^ i : Nat) : Int)
  | 0 => by simp [hld]
  | i + 1 => by
    have := hld_bd (ki := ki) (lo := lo) (k := k) h0 h1 i
    unfold hld
    have h2 : 0 ≤ (if ki k (lo i 0).toNat = lo i 1 then 10 - ru 3 else ru 3) ∧ (if ki k (lo i 0).toNat = lo i 1 then 10 - ru 3 else ru 3) ≤ 10 := by split <;> omega
    have h3 := mul_bd (a := hld ru ki lo k i) (b := if ki k (lo i 0).toNat = lo i 1 then 10 - ru 3 else ru 3) (x := 10 ^ i) (y := 10) this.1 this.2 h2.1 (by omega)
    rw [Nat.pow_succ]
    exact h3
theorem p10 : ∀ c, c ≤ 12 → 10 ^ c ≤ 1000000000000 := by
  intro c hc
  have := Nat.pow_le_pow_right (n := 10) (by omega) hc
  omega
section HL
variable {Γ : XG} {d h n c : Nat} {ru : Nat → Int} {ki lo : Nat → Nat → Int} {μ : XM} {Q : Option Value → XM → Prop}
theorem hld_b (hH : HO μ h n ru ki) (hL : LK μ c lo) (k : Nat) : 0 ≤ hld ru ki lo k c ∧ hld ru ki lo k c ≤ 1000000000000 := by
  have hu := hH.2.2.2.2.1
  unfold RU at hu
  have := hld_bd (ru := ru) (ki := ki) (lo := lo) (k := k) (by omega) (by omega) c
  have := p10 c hL.1
  omega
theorem sh491 : shp 491 = some (.inr (0, 12)) := rfl
theorem sh492 : shp 492 = some (.inr (0, 12)) := rfl
theorem held_G (hR : RF μ) (hH : HO μ h n ru ki) (hL : LK μ c lo) {k : Nat} (hk : k < n) : ∀ (f i : Nat), i + f = c → Q (some (.long (wl (hld ru ki lo k c)))) μ → G Γ m_Lo_held (d + 1) (0, 0) Q 5 [.ref 490, .ref h, .int (w k), .long (wl (hld ru ki lo k i)), jk, .int (w i)] [] μ := by
  have hn := hH.2.2.1
  have hc := hL.1
  have hu := hH.2.2.2.2.1
  unfold RU at hu
  have r3 := hH.rl (j := 3) (by omega) (by omega)
  intro f
  induction f with
  | zero =>
    intro i hi hQ
    refine B_Lo_held_5 (hR.o rfl (by omega)) hH.1.ob hH.1.2.2.2.1 (hR.r 490 0 491 rfl) (hR.r 490 1 492 rfl) hH.1.2.2.1 ?_
    rw [hL.2.1, w_lt (by omega) (by omega) (by omega) (by omega)]
    refine ⟨fun q => absurd q (by omega), fun _ => ?_⟩
    rw [show i = c by omega]
    exact hQ
  | succ f ih =>
    intro i hi hQ
    have nx := ih (i + 1) (by omega) hQ
    obtain ⟨l0, l1, l2⟩ := hL.2.2 i (by omega)
    unfold LO at l2
    obtain ⟨k1, k2, k3, k4, k5⟩ := hH.kr (k := k) (by omega) (by omega)
    simp only [Int.toNat_natCast] at k2 k3 k4 k5
    unfold KK at k5
    have ka : -2147483648 ≤ ki k (lo i 0).toNat ∧ ki k (lo i 0).toNat < 2147483648 := by
      rcases (show (lo i 0).toNat = 0 ∨ (lo i 0).toNat = 1 by omega) with e | e <;> rw [e] <;> omega
    refine B_Lo_held_5 (hR.o rfl (by omega)) hH.1.ob hH.1.2.2.2.1 (hR.r 490 0 491 rfl) (hR.r 490 1 492 rfl) hH.1.2.2.1 ?_
    rw [hL.2.1, w_lt (by omega) (by omega) (by omega) (by omega)]
    refine ⟨fun _ => ⟨k1, _, k2, inb_of sh491 (by omega) hR.1 (by omega) (by omega), ?_⟩, fun q => absurd (by omega) q⟩
    rw [w_cln (by omega), l0, l1, w_cl (by omega) (by omega), k4 _ (by omega), w_inj ka.1 ka.2 (by omega) (by omega), r3.2, show (3 : Int).toNat = 3 from rfl, w_add, w_sub]
    refine ⟨k3 _ (by omega) (by omega), inb_of sh492 (by omega) hR.1 (by omega) (by omega), fun q => ⟨fun z => absurd z (by decide), fun _ => ⟨r3.1, ?_⟩⟩, fun q => ⟨fun _ => ⟨r3.1, ?_⟩, fun z => absurd rfl z⟩⟩
    · rw [w_l (by omega) (by omega), wl_mul]
      rw [hld, if_pos q] at nx
      exact nx
    · rw [w_l (by omega) (by omega), wl_mul]
      rw [hld, if_neg q] at nx
      exact nx
theorem C_held (hd : 1 ≤ d) (hR : RF μ) (hH : HO μ h n ru ki) (hL : LK μ c lo) {k : Nat} (hk : k < n) : Call Γ m_Lo_held d [.ref 490, .ref h, .int (w k)] μ (KL (fun r μ' => μ' = μ ∧ r = wl (hld ru ki lo k c))) := by
  obtain ⟨d, rfl⟩ : ∃ e, d = e + 1 := ⟨d - 1, by omega⟩
  exact Call.of ok_Lo_held (Nat.le_of_ble_eq_true rfl) (B_Lo_held_0 (held_G hR hH hL hk c 0 (by omega) ⟨_, rfl, rfl, rfl⟩))
/-- the likeliest kind: f more, k the next, b the best so far -/
def lkl (H : Nat → Int) : Nat → Nat → Nat → Nat
  | 0, _, b => b
  | f + 1, k, b => if H b < H k then lkl H f (k + 1) k else lkl H f (k + 1) b
theorem lgc {a b : Int} (h1 : -4000000000000000000 ≤ a) (h2 : a ≤ 4000000000000000000) (h3 : -4000000000000000000 ≤ b) (h4 : b ≤ 4000000000000000000) : w 0 < lg_cmp (wl a) (wl b) ↔ b < a := by
  rw [lgc_w (by omega) (by omega) (by omega) (by omega), w_lt (by omega) (by omega) (by split <;> (try split) <;> omega) (by split <;> (try split) <;> omega)]
  split
  · omega
  · split <;> omega
theorem likeliest_G (hR : RF μ) (hH : HO μ h n ru ki) (hL : LK μ c lo) : ∀ (f k b : Nat), (1 ≤ f ∧ k + f = n ∨ f = 0 ∧ n ≤ k ∧ k ≤ 6) → b < k → (b < n ∨ n = 0) → Q (some (.int (w (lkl (fun k => hld ru ki lo k c) f k b)))) μ → G Γ m_Lo_likeliest (d + 2) (0, 0) Q 4 [.ref 490, .ref h, .int (w b), .int (w k)] [] μ := by
  have hn := hH.2.2.1
  intro f
  induction f with
  | zero =>
    intro k b hk hb hbn hQ
    refine B_Lo_likeliest_4 hH.1.ob (hR.o rfl (by omega)) ?_
    rw [hH.2.2.2.1, w_lt (by omega) (by omega) (by omega) (by omega)]
    exact ⟨fun q => absurd q (by omega), fun _ => hQ⟩
  | succ f ih =>
    intro k b hk hb hbn hQ
    refine B_Lo_likeliest_4 hH.1.ob (hR.o rfl (by omega)) ?_
    rw [hH.2.2.2.1, w_lt (by omega) (by omega) (by omega) (by omega)]
    refine ⟨fun _ => ?_, fun q => absurd (by omega) q⟩
    refine (C_held (by omega) hR hH hL (by omega)).conseq (KL.mono ?_)
    rintro r μ1 ⟨rfl, rfl⟩
    refine (C_held (by omega) hR hH hL (by omega)).conseq (KL.mono ?_)
    rintro r μ1 ⟨rfl, rfl⟩
    have h1 := hld_b hH hL k
    have h2 := hld_b hH hL b
    rw [lgc (by omega) (by omega) (by omega) (by omega), w_add]
    unfold lkl at hQ
    refine ⟨fun q => ?_, fun q => ?_⟩
    · rw [if_pos q] at hQ
      exact ih (k + 1) k (by omega) (by omega) (by omega) hQ
    · rw [if_neg q] at hQ
      exact ih (k + 1) b (by omega) (by omega) (by omega) hQ
theorem lkl_lt {H : Nat → Int} : ∀ (f k b : Nat), b < k + f → lkl H f k b < k + f
  | 0, k, b, h => h
  | f + 1, k, b, h => by
    unfold lkl
    split
    · have := lkl_lt (H := H) f (k + 1) k (by omega); omega
    · have := lkl_lt (H := H) f (k + 1) b (by omega); omega
theorem C_likeliest (hd : 2 ≤ d) (hR : RF μ) (hH : HO μ h n ru ki) (hL : LK μ c lo) (h0 : 0 < n) : Call Γ m_Lo_likeliest d [.ref 490, .ref h] μ (KI (fun r μ' => μ' = μ ∧ r = w (lkl (fun k => hld ru ki lo k c) (n - 1) 1 0))) := by
  obtain ⟨d, rfl⟩ : ∃ e, d = e + 2 := ⟨d - 2, by omega⟩
  have hn := hH.2.2.1
  exact Call.of ok_Lo_likeliest (Nat.le_of_ble_eq_true rfl) (B_Lo_likeliest_0 (likeliest_G (d := d) hR hH hL (n - 1) 1 0 (by omega) (by omega) (by omega) ⟨_, rfl, rfl, rfl⟩))
def sur (H : Nat → Int) (n k : Nat) : Int := if 0 < fsum H n then H k * 1000 / fsum H n else 0
theorem sureOf_G (hR : RF μ) (hH : HO μ h n ru ki) (hL : LK μ c lo) {k : Nat} (hk : k < n) : ∀ (f i : Nat), i + f = n → Q (some (.int (w (sur (fun k => hld ru ki lo k c) n k)))) μ → G Γ m_Lo_sureOf (d + 2) (0, 0) Q 5 [.ref 490, .ref h, .int (w k), .long (wl (fsum (fun k => hld ru ki lo k c) i)), jk, .int (w i)] [] μ := by
  have hn := hH.2.2.1
  intro f
  induction f with
  | zero =>
    intro i hi hQ
    refine B_Lo_sureOf_5 hH.1.ob (hR.o rfl (by omega)) ?_
    rw [hH.2.2.2.1, w_lt (by omega) (by omega) (by omega) (by omega), show i = n by omega]
    have hs := fsum_bd (f := fun k => hld ru ki lo k c) (lo := 0) (hi := 1000000000000) n (fun j hj => hld_b hH hL j)
    have hk' := hld_b hH hL k
    unfold sur at hQ
    refine ⟨fun q => absurd q (by omega), fun _ => ?_⟩
    rw [lgc (by omega) (by omega) (by omega) (by omega)]
    refine ⟨fun q => ?_, fun q => ?_⟩
    · refine (C_held (by omega) hR hH hL hk).conseq (KL.mono ?_)
      rintro r μ1 ⟨rfl, rfl⟩
      rw [if_pos q] at hQ
      rw [wl_mul, wl_tdiv (by omega) (by omega) (by omega) (by omega), wl_i, Int.tdiv_eq_ediv_of_nonneg (by omega)]
      refine ⟨fun z => ?_, hQ⟩
      rw [show (0 : Int64) = wl 0 from rfl, wl_inj (by omega) (by omega) (by omega) (by omega)] at z
      omega
    · rw [if_neg q] at hQ
      exact hQ
  | succ f ih =>
    intro i hi hQ
    refine B_Lo_sureOf_5 hH.1.ob (hR.o rfl (by omega)) ?_
    rw [hH.2.2.2.1, w_lt (by omega) (by omega) (by omega) (by omega)]
    refine ⟨fun _ => ?_, fun q => absurd (by omega) q⟩
    refine (C_held (by omega) hR hH hL (by omega)).conseq (KL.mono ?_)
    rintro r μ1 ⟨rfl, rfl⟩
    rw [w_add, wl_add]
    exact ih (i + 1) (by omega) hQ
theorem C_sureOf (hd : 2 ≤ d) (hR : RF μ) (hH : HO μ h n ru ki) (hL : LK μ c lo) {k : Nat} (hk : k < n) : Call Γ m_Lo_sureOf d [.ref 490, .ref h, .int (w k)] μ (KI (fun r μ' => μ' = μ ∧ r = w (sur (fun k => hld ru ki lo k c) n k))) := by
  obtain ⟨d, rfl⟩ : ∃ e, d = e + 2 := ⟨d - 2, by omega⟩
  exact Call.of ok_Lo_sureOf (Nat.le_of_ble_eq_true rfl) (B_Lo_sureOf_0 (sureOf_G (d := d) hR hH hL hk n 0 (by omega) ⟨_, rfl, rfl, rfl⟩))
/-- all that look like kind k in sort q, together -/
def alk (H : Nat → Int) (ki : Nat → Nat → Int) (q k : Nat) (j : Nat) : Int := if ki j q = ki k q then H j else 0
def gal (H : Nat → Int) (ki : Nat → Nat → Int) (q n : Nat) : Nat → Int
  | 0 => 0
  | k + 1 => max (gal H ki q n k) (fsum (alk H ki q k) n)
theorem alk_bd (hH : HO μ h n ru ki) (hL : LK μ c lo) (q k i : Nat) : 0 ≤ fsum (alk (fun k => hld ru ki lo k c) ki q k) i ∧ fsum (alk (fun k => hld ru ki lo k c) ki q k) i ≤ 1000000000000 * i := by
  have := fsum_bd (f := alk (fun k => hld ru ki lo k c) ki q k) (lo := 0) (hi := 1000000000000) i (fun j hj => by
    have := hld_b hH hL j
    unfold alk
    split <;> omega)
  omega
theorem gal_bd (hH : HO μ h n ru ki) (hL : LK μ c lo) (q : Nat) : ∀ k, 0 ≤ gal (fun k => hld ru ki lo k c) ki q n k ∧ gal (fun k => hld ru ki lo k c) ki q n k ≤ 6000000000000
  | 0 => by unfold gal; omega
  | k + 1 => by
    have := gal_bd hH hL q k
    have := alk_bd hH hL q k n
    have hn := hH.2.2.1
    unfold gal
    omega
theorem alike_i (hR : RF μ) (hH : HO μ h n ru ki) (hL : LK μ c lo) {q k : Nat} (hq : q < 2) (hk : k < n) {x : Int} (x1 : 0 ≤ x) (x2 : x ≤ 6000000000000) : ∀ (f i : Nat), i + f = n → G Γ m_Lo_greatestAlike (d + 2) (0, 0) Q 5 [.ref 490, .ref h, .int (w q), .long (wl (max x (fsum (alk (fun k => hld ru ki lo k c) ki q k) n))), jk, .int (w ((k + 1 : Nat) : Int))] [] μ → G Γ m_Lo_greatestAlike (d + 2) (0, 0) Q 20 [.ref 490, .ref h, .int (w q), .long (wl x), jk, .int (w k), .long (wl (fsum (alk (fun k => hld ru ki lo k c) ki q k) i)), jk, .int (w i)] [] μ := by
  have hn := hH.2.2.1
  intro f
  induction f with
  | zero =>
    intro i hi hQ
    refine B_Lo_greatestAlike_20 hH.1.ob hH.1.2.2.2.1 (hR.o rfl (by omega)) ?_
    have hb := alk_bd hH hL q k n
    rw [hH.2.2.2.1, w_lt (by omega) (by omega) (by omega) (by omega)]
    refine ⟨fun q => absurd q (by omega), fun _ => ?_⟩
    rw [show i = n by omega, jmaxL_w (by omega) (by omega) (by omega) (by omega), w_add]
    exact hQ
  | succ f ih =>
    intro i hi hQ
    have nx := ih (i + 1) (by omega) hQ
    obtain ⟨k1, k2, k3, k4, k5⟩ := hH.kr (k := k) (by omega) (by omega)
    obtain ⟨j1, j2, j3, j4, j5⟩ := hH.kr (k := i) (by omega) (by omega)
    simp only [Int.toNat_natCast] at k2 k3 k4 k5 j2 j3 j4 j5
    unfold KK at k5 j5
    have ka : -2147483648 ≤ ki k q ∧ ki k q < 2147483648 := by
      rcases (show q = 0 ∨ q = 1 by omega) with e | e <;> rw [e] <;> omega
    have ja : -2147483648 ≤ ki i q ∧ ki i q < 2147483648 := by
      rcases (show q = 0 ∨ q = 1 by omega) with e | e <;> rw [e] <;> omega
    refine B_Lo_greatestAlike_20 hH.1.ob hH.1.2.2.2.1 (hR.o rfl (by omega)) ?_
    rw [hH.2.2.2.1, w_lt (by omega) (by omega) (by omega) (by omega)]
    refine ⟨fun _ => ⟨j1, _, j2, j3 _ (by omega) (by omega), k1, _, k2, k3 _ (by omega) (by omega), ?_⟩, fun q => absurd (by omega) q⟩
    rw [w_cln (by omega), j4 q (by omega), k4 q (by omega), w_inj ja.1 ja.2 ka.1 ka.2, w_add]
    rw [fsum] at nx
    refine ⟨fun e => ⟨fun z => absurd z (by decide), fun _ => ?_⟩, fun e => ⟨fun _ => ?_, fun z => absurd rfl z⟩⟩
    · refine (C_held (by omega) hR hH hL (by omega)).conseq (KL.mono ?_)
      rintro r μ1 ⟨rfl, rfl⟩
      rw [show alk (fun k => hld ru ki lo k c) ki q k i = hld ru ki lo i c from if_pos e] at nx
      rw [wl_add]
      exact nx
    · rw [show alk (fun k => hld ru ki lo k c) ki q k i = 0 from if_neg e] at nx
      rw [wl_add]
      exact nx
theorem alike_o (hR : RF μ) (hH : HO μ h n ru ki) (hL : LK μ c lo) {q : Nat} (hq : q < 2) : ∀ (f k : Nat), k + f = n → Q (some (.long (wl (gal (fun k => hld ru ki lo k c) ki q n n)))) μ → G Γ m_Lo_greatestAlike (d + 2) (0, 0) Q 5 [.ref 490, .ref h, .int (w q), .long (wl (gal (fun k => hld ru ki lo k c) ki q n k)), jk, .int (w k)] [] μ := by
  have hn := hH.2.2.1
  intro f
  induction f with
  | zero =>
    intro k hk hQ
    refine B_Lo_greatestAlike_5 hH.1.ob ?_
    rw [hH.2.2.2.1, w_lt (by omega) (by omega) (by omega) (by omega)]
    refine ⟨fun q => absurd q (by omega), fun _ => ?_⟩
    rw [show k = n by omega]
    exact hQ
  | succ f ih =>
    intro k hk hQ
    refine B_Lo_greatestAlike_5 hH.1.ob ?_
    rw [hH.2.2.2.1, w_lt (by omega) (by omega) (by omega) (by omega)]
    refine ⟨fun _ => ?_, fun q => absurd (by omega) q⟩
    have hb := gal_bd hH hL q k
    exact alike_i hR hH hL hq (by omega) hb.1 hb.2 n 0 (by omega) (ih (k + 1) (by omega) hQ)
theorem C_greatestAlike (hd : 2 ≤ d) (hR : RF μ) (hH : HO μ h n ru ki) (hL : LK μ c lo) {q : Nat} (hq : q < 2) : Call Γ m_Lo_greatestAlike d [.ref 490, .ref h, .int (w q)] μ (KL (fun r μ' => μ' = μ ∧ r = wl (gal (fun k => hld ru ki lo k c) ki q n n))) := by
  obtain ⟨d, rfl⟩ : ∃ e, d = e + 2 := ⟨d - 2, by omega⟩
  exact Call.of ok_Lo_greatestAlike (Nat.le_of_ble_eq_true rfl) (B_Lo_greatestAlike_0 (alike_o (d := d) hR hH hL hq n 0 (by omega) ⟨_, rfl, rfl, rfl⟩))
/-- what the looks tell -/
def wht (ru : Nat → Int) (ki lo : Nat → Nat → Int) (n c : Nat) (z : Int) : Int :=
  if z = 2 then (if gal (fun k => hld ru ki lo k c) ki 1 n n < gal (fun k => hld ru ki lo k c) ki 0 n n then 1 else 0)
  else if z = 0 then lkl (fun k => hld ru ki lo k c) (n - 1) 1 0 else sur (fun k => hld ru ki lo k c) n (lkl (fun k => hld ru ki lo k c) (n - 1) 1 0)
theorem C_whatF (hd : 3 ≤ d) (hR : RF μ) (hH : HO μ h n ru ki) (hL : LK μ c lo) {z : Int} (z1 : -2147483648 ≤ z) (z2 : z < 2147483648) : Call Γ m_FB_what d [.ref 32, .int (w z)] μ (KI (fun r μ' => μ' = μ ∧ r = if 0 < n ∧ 0 ≤ z ∧ z ≤ 2 then w (wht ru ki lo n c z) else w (-1))) := by
  obtain ⟨d, rfl⟩ : ∃ e, d = e + 1 := ⟨d - 1, by omega⟩
  have hn6 := hH.2.2.1
  refine Call.of ok_FB_what (Nat.le_of_ble_eq_true rfl) (B_FB_what_0 hR.ob ?_)
  refine (C_hasHouse (by omega) hR hH).conseq (KI.mono ?_)
  rintro r μ1 ⟨rfl, ⟨hn, rfl⟩ | ⟨hn, rfl⟩⟩
  · refine ⟨fun q => absurd q (by decide), fun _ => ?_⟩
    rw [w_lt (by omega) (by omega) (by omega) (by omega), w_lt (by omega) (by omega) (by omega) (by omega), w_inj (by omega) (by omega) (by omega) (by omega)]
    refine ⟨fun q => ⟨_, rfl, rfl, by rw [if_neg (by omega)]⟩, fun q => ⟨fun q2 => ⟨_, rfl, rfl, by rw [if_neg (by omega)]⟩, fun q2 => ⟨fun q3 => ?_, fun q3 => ?_⟩⟩⟩
    · refine ⟨490, hR.r 32 14 490 rfl, h, hH.2.1, hR.o rfl (by omega), ?_⟩
      refine (C_greatestAlike (q := 0) (by omega) hR hH hL (by omega)).conseq (KL.mono ?_)
      rintro r μ1 ⟨rfl, rfl⟩
      refine ⟨hR.r 32 14 490 rfl, hH.2.1, ?_⟩
      refine (C_greatestAlike (q := 1) (by omega) hR hH hL (by omega)).conseq (KL.mono ?_)
      rintro r μ1 ⟨rfl, rfl⟩
      have b0 := gal_bd hH hL 0 n
      have b1 := gal_bd hH hL 1 n
      rw [lgc (by omega) (by omega) (by omega) (by omega), if_pos (show 0 < n ∧ 0 ≤ z ∧ z ≤ 2 by omega)]
      unfold wht
      rw [if_pos q3]
      exact ⟨fun q4 => ⟨_, rfl, rfl, by rw [if_pos q4]⟩, fun q4 => ⟨_, rfl, rfl, by rw [if_neg q4]⟩⟩
    · refine ⟨490, hR.r 32 14 490 rfl, h, hH.2.1, hR.o rfl (by omega), ?_⟩
      refine (C_likeliest (by omega) hR hH hL hn).conseq (KI.mono ?_)
      rintro r μ1 ⟨rfl, rfl⟩
      rw [w_inj (by omega) (by omega) (by omega) (by omega), if_pos (show 0 < n ∧ 0 ≤ z ∧ z ≤ 2 by omega)]
      unfold wht
      rw [if_neg q3]
      refine ⟨fun q4 => ⟨_, rfl, rfl, by rw [if_pos q4]⟩, fun q4 => ⟨hR.r 32 14 490 rfl, hH.2.1, ?_⟩⟩
      have hl := lkl_lt (H := fun k => hld ru ki lo k c) (n - 1) 1 0 (by omega)
      refine (C_sureOf (by omega) hR hH hL (by omega)).conseq (KI.mono ?_)
      rintro r μ1 ⟨rfl, rfl⟩
      exact ⟨_, rfl, rfl, by rw [if_neg q4]⟩
  · exact ⟨fun _ => ⟨_, rfl, rfl, by rw [if_neg (by omega)]⟩, fun q => absurd rfl q⟩
/-- one look more -/
def lput (lo : Nat → Nat → Int) (c : Nat) (x y : Int) : Nat → Nat → Int := fun i t => if i = c then (if t = 0 then x else y) else lo i t
def kcr (c : Nat) : Prop := c = 490 ∨ c = 491 ∨ c = 492
def PK (n c : Nat) (x y : Int) : Prop := 0 < n ∧ 0 ≤ x ∧ x ≤ 1 ∧ c < 12 ∧ x ≤ y ∧ (x = 0 → y ≤ 5) ∧ y ≤ 9
theorem C_peekF (hd : 2 ≤ d) (hR : RF μ) (hS : ST μ) (hH : HO μ h n ru ki) (hL : LK μ c lo) {x y : Int} (x1 : -2147483648 ≤ x) (x2 : x < 2147483648) (y1 : -2147483648 ≤ y) (y2 : y < 2147483648) : Call Γ m_FB_peek d [.ref 32, .int (w x), .int (w y)] μ (KI (fun r μ' => fof kcr μ μ' ∧ ((PK n c x y ∧ r = w ((c + 1 : Nat) : Int) ∧ LK μ' (c + 1) (lput lo c x y)) ∨ (¬ PK n c x y ∧ r = w (-1) ∧ LK μ' c lo)))) := by
  obtain ⟨d, rfl⟩ : ∃ e, d = e + 2 := ⟨d - 2, by omega⟩
  have hc := hL.1
  refine Call.of ok_FB_peek (Nat.le_of_ble_eq_true rfl) (B_FB_peek_0 hR.ob ?_)
  refine (C_hasHouse (by omega) hR hH).conseq (KI.mono ?_)
  unfold PK
  rintro r μ1 ⟨rfl, ⟨hn, rfl⟩ | ⟨hn, rfl⟩⟩
  · refine ⟨fun q => absurd q (by decide), fun _ => ?_⟩
    rw [w_lt (by omega) (by omega) (by omega) (by omega), w_lt (by omega) (by omega) (by omega) (by omega)]
    refine ⟨fun q => ⟨_, rfl, fof.rf _ _, Or.inr ⟨by omega, rfl, hL⟩⟩, fun q => ⟨fun q2 => ⟨_, rfl, fof.rf _ _, Or.inr ⟨by omega, rfl, hL⟩⟩, fun q2 => ⟨490, hR.r 32 14 490 rfl, hR.o rfl (by omega), ?_⟩⟩⟩
    rw [hL.2.1, w_lt (by omega) (by omega) (by omega) (by omega)]
    refine ⟨fun q3 => ⟨inb_of (show shp 8 = some (.inr (0, 5)) from rfl) (by omega) hR.1 (by omega) (by omega), ?_⟩, fun q3 => ⟨_, rfl, fof.rf _ _, Or.inr ⟨by omega, rfl, hL⟩⟩⟩
    have e8 : xI μ1 8 (w x).toNatClampNeg = w x := by
      rw [w_cl (by omega) (by omega)]
      rcases (show x = 0 ∨ x = 1 by omega) with rfl | rfl
      · exact hS 8 0 0 rfl
      · exact hS 8 1 1 rfl
    have e9 : xI μ1 9 (w x).toNatClampNeg = w (if x = 0 then 5 else 9) := by
      rw [w_cl (by omega) (by omega)]
      rcases (show x = 0 ∨ x = 1 by omega) with rfl | rfl
      · exact hS 9 0 5 rfl
      · exact hS 9 1 9 rfl
    have b9 : (if x = 0 then (5 : Int) else 9) = 5 ∧ x = 0 ∨ (if x = 0 then (5 : Int) else 9) = 9 ∧ ¬ x = 0 := by
      by_cases e : x = 0
      · exact Or.inl ⟨if_pos e, e⟩
      · exact Or.inr ⟨if_neg e, e⟩
    rw [e8, e9, w_lt (by omega) (by omega) (by omega) (by omega), w_lt (by omega) (by omega) (by omega) (by omega)]
    refine ⟨fun q4 => ⟨_, rfl, fof.rf _ _, Or.inr ⟨by omega, rfl, hL⟩⟩, fun q4 => ⟨inb_of (show shp 9 = some (.inr (0, 5)) from rfl) (by omega) hR.1 (by omega) (by omega), fun q5 => ⟨_, rfl, fof.rf _ _, Or.inr ⟨by omega, rfl, hL⟩⟩, fun q5 => ?_⟩⟩
    refine Call.of ok_Lo_add (Nat.le_of_ble_eq_true rfl) (B_Lo_add_0 (hR.o rfl (by omega)) (hR.r 490 0 491 rfl) (hR.r 490 1 492 rfl) ?_)
    rw [hL.2.1, w_lt (by omega) (by omega) (by omega) (by omega), w_cln (by omega)]
    refine ⟨fun _ => ⟨inS_of sh491 (by omega) hR.1 (by omega) (by omega) (by omega), ?_⟩, fun z => absurd q3 z⟩
    rintro μ2 rfl
    simp (disch := omega) only [xI_sI, if_neg, hL.2.1, w_cln]
    refine ⟨inS_of sh492 (by omega) hR.1 (by omega) (by omega) (by omega), ?_⟩
    rintro μ4 rfl μ5 rfl
    simp (disch := omega) only [xI_sI, if_neg, hL.2.1, w_add]
    refine ⟨rfl, hR.r 32 14 490 rfl, _, rfl, ((fof.sI _ _ _ (by unfold kcr; omega)).trans (fof.sI _ _ _ (by unfold kcr; omega))).trans (fof.sI _ _ _ (by unfold kcr; omega)), Or.inl ⟨⟨hn, by omega, by omega, by omega, by omega, by omega, by omega⟩, ?_, by omega, ?_, fun i hi => ?_⟩⟩
    · rw [xI_sI, if_pos ⟨rfl, rfl⟩]; rfl
    · rw [xI_sI, if_pos ⟨rfl, rfl⟩]; rfl
    · simp (disch := omega) only [xI_sI, if_neg]
      unfold lput LO
      by_cases e : i = c
      · subst e
        simp
        omega
      · obtain ⟨l0, l1, l2⟩ := hL.2.2 i (by omega)
        unfold LO at l2
        simp [e]
        exact ⟨l0, l1, l2⟩
  · exact ⟨fun _ => ⟨_, rfl, fof.rf _ _, Or.inr ⟨by omega, rfl, hL⟩⟩, fun q => absurd rfl q⟩
end HL
