/-! LOOKS AT A NAMELESS THING, in the reference -/
def LKM (μ : XM) (c : Nat) (lo : Nat → Nat → Int) : Prop := c ≤ 12 ∧ xI μ 547 43 = w c ∧ ∀ i, i < c → xI μ 564 i = w (lo i 0) ∧ xI μ 565 i = w (lo i 1) ∧ LO lo i
theorem LKM.fr {F : Nat → Nat → Prop} {μ μ' : XM} {c : Nat} {lo : Nat → Nat → Int} (h : LKM μ c lo) (ho : fr F μ μ') (h1 : ¬ F 547 43) (h2 : ∀ j, ¬ F 564 j) (h3 : ∀ j, ¬ F 565 j) : LKM μ' c lo := ⟨h.1, by rw [(ho.1 547 43 h1).1]; exact h.2.1, fun i hi => by rw [(ho.1 564 i (h2 i)).1, (ho.1 565 i (h3 i)).1]; exact h.2.2 i hi⟩
theorem sh563 : shp 564 = some (.inr (0, 12)) ∧ shp 565 = some (.inr (0, 12)) := ⟨rfl, rfl⟩
theorem lgl {a b : Int} (h1 : -4000000000000000000 ≤ a) (h2 : a ≤ 4000000000000000000) (h3 : -4000000000000000000 ≤ b) (h4 : b ≤ 4000000000000000000) : lg_cmp (wl a) (wl b) < w 0 ↔ a < b := by
  rw [lgc_w (by omega) (by omega) (by omega) (by omega), w_lt (by split <;> (try split) <;> omega) (by split <;> (try split) <;> omega) (by omega) (by omega)]
  split
  · omega
  · split <;> omega
/-- all that look like v in sort q, together -/
def alv (H : Nat → Int) (ki : Nat → Nat → Int) (q : Nat) (v : Int) (j : Nat) : Int := if ki j q = v then H j else 0
def mxv (S : Nat → Int) : Nat → Int
  | 0 => 0
  | v + 1 => max (mxv S v) (S v)
theorem mxv_ge {S : Nat → Int} : ∀ k v, v < k → S v ≤ mxv S k
  | 0, v, h => by omega
  | k + 1, v, h => by
    unfold mxv
    by_cases e : v = k
    · subst e; omega
    · have := mxv_ge (S := S) k v (by omega); omega
theorem mxv_le {S : Nat → Int} {B : Int} (h0 : 0 ≤ B) : ∀ k, (∀ v, v < k → S v ≤ B) → mxv S k ≤ B
  | 0, _ => h0
  | k + 1, h => by
    unfold mxv
    have := mxv_le h0 k (fun v hv => h v (by omega))
    have := h k (by omega)
    omega
theorem mxv_0 {S : Nat → Int} : ∀ k, 0 ≤ mxv S k
  | 0 => Int.le_refl 0
  | k + 1 => by
    unfold mxv
    have := mxv_0 (S := S) k
    omega
theorem gal_mx (H : Nat → Int) (ki : Nat → Nat → Int) (q n : Nat) : ∀ k, gal H ki q n k = mxv (fun k => fsum (alv H ki q (ki k q)) n) k
  | 0 => rfl
  | k + 1 => by
    unfold gal mxv
    rw [gal_mx H ki q n k]
    rfl
theorem fsum_0 {f : Nat → Int} : ∀ n, (∀ j, j < n → f j = 0) → fsum f n = 0
  | 0, _ => rfl
  | n + 1, h => by unfold fsum; rw [fsum_0 n (fun j hj => h j (by omega)), h n (by omega)]; rfl
theorem gal_v {H : Nat → Int} {ki : Nat → Nat → Int} {q n : Nat} (hk : ∀ k, k < n → 0 ≤ ki k q ∧ ki k q ≤ 9) : gal H ki q n n = mxv (fun v => fsum (alv H ki q v) n) 10 := by
  rw [gal_mx]
  refine Int.le_antisymm ?_ ?_
  · refine mxv_le (mxv_0 _) n (fun k hkn => ?_)
    have := mxv_ge (S := fun v => fsum (alv H ki q v) n) 10 (ki k q).toNat (by have := hk k hkn; omega)
    rw [show (((ki k q).toNat : Nat) : Int) = ki k q by have := hk k hkn; omega] at this
    exact this
  · refine mxv_le (mxv_0 _) 10 (fun v hv => ?_)
    by_cases e : ∃ k, k < n ∧ ki k q = v
    · obtain ⟨k, h1, h2⟩ := e
      have := mxv_ge (S := fun k => fsum (alv H ki q (ki k q)) n) n k h1
      rw [h2] at this
      exact this
    · rw [fsum_0 n (fun j hj => by unfold alv; rw [if_neg (fun z => e ⟨j, hj, z⟩)])]
      exact mxv_0 _
section NL
variable {Γ : XG} {d n c : Nat} {ru : Nat → Int} {ki lo : Nat → Nat → Int} {μ : XM} {Q : Option Value → XM → Prop}
theorem hldM_b (hM : HM μ n ru ki) (hL : LKM μ c lo) (k : Nat) : 0 ≤ hld ru ki lo k c ∧ hld ru ki lo k c ≤ 1000000000000 := by
  have hu := hM.2.2.2.1
  unfold RU at hu
  have := hld_bd (ru := ru) (ki := ki) (lo := lo) (k := k) (by omega) (by omega) c
  have := p10 c hL.1
  omega
theorem heldM_G (hM : HM μ n ru ki) (hL : LKM μ c lo) {k : Nat} (hk : k < n) : ∀ (f i : Nat), i + f = c → Q (some (.long (wl (hld ru ki lo k c)))) μ → G Γ m_MO_heldBy (d + 2) (0, 0) Q 5 [.ref 547, .int (w k), .long (wl (hld ru ki lo k i)), jk, .int (w i)] [] μ := by
  have hn := hM.2.1
  have hc := hL.1
  have hu := hM.2.2.2.1
  unfold RU at hu
  have kk := (hM.2.2.2.2.2 k hk).2
  unfold KK at kk
  intro f
  induction f with
  | zero =>
    intro i hi hQ
    refine B_MO_heldBy_5 hM.1.o (hM.1.r 41 564 rfl) ?_
    rw [hL.2.1, w_lt (by omega) (by omega) (by omega) (by omega)]
    refine ⟨fun q => absurd q (by omega), fun _ => ?_⟩
    rw [show i = c by omega]
    exact hQ
  | succ f ih =>
    intro i hi hQ
    obtain ⟨e0, e1, eL⟩ := hL.2.2 i (by omega)
    unfold LO at eL
    have nx := ih (i + 1) (by omega) hQ
    unfold hld at nx
    refine B_MO_heldBy_5 hM.1.o (hM.1.r 41 564 rfl) ?_
    rw [hL.2.1, w_lt (by omega) (by omega) (by omega) (by omega), w_cln (by omega), e0, w_add]
    refine ⟨fun _ => ⟨inb_of sh563.1 (by omega) hM.1.1 (by omega) (by omega), ?_⟩, fun q => absurd (by omega) q⟩
    have tl := C_told (Γ := Γ) (d := d + 1) (k := k) (j := (lo i 0).toNat) (by omega) hM hk (by omega)
    rw [show (((lo i 0).toNat : Nat) : Int) = lo i 0 by omega] at tl
    refine tl.conseq (KI.mono ?_)
    rintro r μ2 ⟨rfl, rfl⟩
    refine ⟨565, hM.1.r 42 565 rfl, inb_of sh563.2 (by omega) hM.1.1 (by omega) (by omega), ?_⟩
    have e3 : (w 3).toNatClampNeg = 3 := by decide
    have kv : -2147483648 ≤ ki k (lo i 0).toNat ∧ ki k (lo i 0).toNat < 2147483648 := by
      rcases (show (lo i 0).toNat = 0 ∨ (lo i 0).toNat = 1 by omega) with e | e <;> rw [e] <;> omega
    rw [e1, w_inj kv.1 kv.2 (by omega) (by omega), e3]
    refine ⟨fun q => ⟨552, hM.1.r 18 552 rfl, inb_of shmod.1 (by omega) hM.1.1 (by omega) (by omega), ?_⟩, fun q => ⟨552, hM.1.r 18 552 rfl, inb_of shmod.1 (by omega) hM.1.1 (by omega) (by omega), ?_⟩⟩
    · rw [hM.2.2.2.2.1 3 (by omega), w_sub, w_l (by omega) (by omega), wl_mul]
      rw [if_pos q] at nx
      exact nx
    · rw [hM.2.2.2.2.1 3 (by omega), w_l (by omega) (by omega), wl_mul]
      rw [if_neg q] at nx
      exact nx
theorem C_heldM (hd : 2 ≤ d) (hM : HM μ n ru ki) (hL : LKM μ c lo) {k : Nat} (hk : k < n) : Call Γ m_MO_heldBy d [.ref 547, .int (w k)] μ (KL (fun r μ' => μ' = μ ∧ r = wl (hld ru ki lo k c))) := by
  obtain ⟨d, rfl⟩ : ∃ e, d = e + 2 := ⟨d - 2, by omega⟩
  exact Call.of ok_MO_heldBy (Nat.le_of_ble_eq_true rfl) (B_MO_heldBy_0 (heldM_G hM hL hk c 0 (by omega) ⟨_, rfl, rfl, rfl⟩))
theorem alvM_bd (hM : HM μ n ru ki) (hL : LKM μ c lo) (q : Nat) (v : Int) (i : Nat) : 0 ≤ fsum (alv (fun k => hld ru ki lo k c) ki q v) i ∧ fsum (alv (fun k => hld ru ki lo k c) ki q v) i ≤ 1000000000000 * i := by
  have := fsum_bd (f := alv (fun k => hld ru ki lo k c) ki q v) (lo := 0) (hi := 1000000000000) i (fun j hj => by
    have := hldM_b hM hL j
    unfold alv
    split <;> omega)
  omega
theorem greatest_i (hM : HM μ n ru ki) (hL : LKM μ c lo) {q v : Nat} (hq : q < 2) (hv : v < 10) {x : Int} (x1 : 0 ≤ x) (x2 : x ≤ 6000000000000) : ∀ (f i : Nat), i + f = n → G Γ m_MO_greatestBy (d + 3) (0, 0) Q 5 [.ref 547, .int (w q), .long (wl (max x (fsum (alv (fun k => hld ru ki lo k c) ki q v) n))), jk, .int (w ((v + 1 : Nat) : Int))] [] μ → G Γ m_MO_greatestBy (d + 3) (0, 0) Q 18 [.ref 547, .int (w q), .long (wl x), jk, .int (w v), .long (wl (fsum (alv (fun k => hld ru ki lo k c) ki q v) i)), jk, .int (w i)] [] μ := by
  have hn := hM.2.1
  intro f
  induction f with
  | zero =>
    intro i hi hQ
    have hb := alvM_bd hM hL q v i
    refine B_MO_greatestBy_18 hM.1.o ?_
    rw [hM.2.2.1, w_lt (by omega) (by omega) (by omega) (by omega), jmaxL_w (by omega) (by omega) (by omega) (by omega)]
    refine ⟨fun q => absurd q (by omega), fun _ => ?_⟩
    rw [show i = n by omega, w_add]
    exact hQ
  | succ f ih =>
    intro i hi hQ
    have kk := (hM.2.2.2.2.2 i (by omega)).2
    unfold KK at kk
    have nx := ih (i + 1) (by omega) hQ
    unfold fsum at nx
    refine B_MO_greatestBy_18 hM.1.o ?_
    rw [hM.2.2.1, w_lt (by omega) (by omega) (by omega) (by omega)]
    refine ⟨fun _ => ?_, fun q => absurd (by omega) q⟩
    refine (C_told (d := d + 2) (k := i) (j := q) (by omega) hM (by omega) (by omega)).conseq (KI.mono ?_)
    rintro r μ1 ⟨rfl, rfl⟩
    have kv : -2147483648 ≤ ki i q ∧ ki i q < 2147483648 := by
      rcases (show q = 0 ∨ q = 1 by omega) with e | e <;> rw [e] <;> omega
    rw [w_inj kv.1 kv.2 (by omega) (by omega)]
    refine ⟨fun e => ?_, fun e => ?_⟩
    · refine (C_heldM (d := d + 2) (by omega) hM hL (k := i) (by omega)).conseq (KL.mono ?_)
      rintro r μ2 ⟨rfl, rfl⟩
      rw [wl_add, w_add]
      have ea : alv (fun k => hld ru ki lo k c) ki q v i = hld ru ki lo i c := if_pos e
      rw [ea] at nx
      exact nx
    · rw [wl_add, w_add]
      have ea : alv (fun k => hld ru ki lo k c) ki q v i = 0 := if_neg e
      rw [ea] at nx
      exact nx
theorem mxvM_bd (hM : HM μ n ru ki) (hL : LKM μ c lo) (q : Nat) (k : Nat) : 0 ≤ mxv (fun v => fsum (alv (fun k => hld ru ki lo k c) ki q v) n) k ∧ mxv (fun v => fsum (alv (fun k => hld ru ki lo k c) ki q v) n) k ≤ 6000000000000 := by
  have hn := hM.2.1
  refine ⟨mxv_0 _, mxv_le (by omega) k (fun v _ => ?_)⟩
  have := alvM_bd hM hL q v n
  omega
theorem greatest_o (hM : HM μ n ru ki) (hL : LKM μ c lo) {q : Nat} (hq : q < 2) : ∀ (f v : Nat), v + f = 10 → Q (some (.long (wl (mxv (fun v => fsum (alv (fun k => hld ru ki lo k c) ki q v) n) 10)))) μ → G Γ m_MO_greatestBy (d + 3) (0, 0) Q 5 [.ref 547, .int (w q), .long (wl (mxv (fun v => fsum (alv (fun k => hld ru ki lo k c) ki q v) n) v)), jk, .int (w v)] [] μ := by
  intro f
  induction f with
  | zero =>
    intro v hv hQ
    refine B_MO_greatestBy_5 ?_
    rw [w_lt (by omega) (by omega) (by omega) (by omega)]
    refine ⟨fun _ => ?_, fun q => absurd (by omega) q⟩
    rw [show v = 10 by omega]
    exact hQ
  | succ f ih =>
    intro v hv hQ
    have hb := mxvM_bd hM hL q v
    refine B_MO_greatestBy_5 ?_
    rw [w_lt (by omega) (by omega) (by omega) (by omega)]
    refine ⟨fun q => absurd q (by omega), fun _ => ?_⟩
    exact greatest_i hM hL hq (by omega) hb.1 hb.2 n 0 (by omega) (ih (v + 1) (by omega) hQ)
theorem C_greatestBy (hd : 3 ≤ d) (hM : HM μ n ru ki) (hL : LKM μ c lo) {q : Nat} (hq : q < 2) : Call Γ m_MO_greatestBy d [.ref 547, .int (w q)] μ (KL (fun r μ' => μ' = μ ∧ r = wl (gal (fun k => hld ru ki lo k c) ki q n n))) := by
  obtain ⟨d, rfl⟩ : ∃ e, d = e + 3 := ⟨d - 3, by omega⟩
  refine Call.of ok_MO_greatestBy (Nat.le_of_ble_eq_true rfl) (B_MO_greatestBy_0 (greatest_o hM hL hq 10 0 (by omega) ⟨_, rfl, rfl, ?_⟩))
  rw [gal_v (fun k hk => by
    have kk := (hM.2.2.2.2.2 k hk).2
    unfold KK at kk
    rcases (show q = 0 ∨ q = 1 by omega) with e | e <;> rw [e] <;> omega)]
theorem fsumH_bd (hM : HM μ n ru ki) (hL : LKM μ c lo) (i : Nat) : 0 ≤ fsum (fun k => hld ru ki lo k c) i ∧ fsum (fun k => hld ru ki lo k c) i ≤ 1000000000000 * i := by
  have := fsum_bd (f := fun k => hld ru ki lo k c) (lo := 0) (hi := 1000000000000) i (fun j hj => hldM_b hM hL j)
  omega
theorem whatM_G (hM : HM μ n ru ki) (hL : LKM μ c lo) (h0 : 0 < n) {z : Int} (z0 : 0 ≤ z) (z1 : z ≤ 1) : ∀ (f k b : Nat), k + f = n → (b < k ∨ b = 0) → Q (some (.int (w (if z = 0 then ((lkl (fun k => hld ru ki lo k c) f k b : Nat) : Int) else sur (fun k => hld ru ki lo k c) n (lkl (fun k => hld ru ki lo k c) f k b))))) μ → G Γ m_MO_what (d + 3) (0, 0) Q 58 [.ref 547, .int (w z), .int (w b), .long (wl (fsum (fun k => hld ru ki lo k c) k)), jk, .int (w k)] [] μ := by
  have hn := hM.2.1
  intro f
  induction f with
  | zero =>
    intro k b hk hb hQ
    have hF := fsumH_bd hM hL k
    have hH := hldM_b hM hL b
    refine B_MO_what_58 hM.1.o ?_
    unfold lkl at hQ
    rw [hM.2.2.1, w_lt (by omega) (by omega) (by omega) (by omega), w_inj (by omega) (by omega) (by omega) (by omega), lgz2, wl_inj (by omega) (by omega) (by omega) (by omega)]
    refine ⟨fun q => absurd q (by omega), fun _ => ⟨fun q => ?_, fun q => ⟨fun q2 => ?_, fun q2 => ?_⟩⟩⟩
    · rw [if_pos q] at hQ; exact hQ
    · rw [if_neg q] at hQ
      unfold sur at hQ
      rw [show n = k by omega, if_neg (by omega)] at hQ
      exact hQ
    · refine (C_heldM (d := d + 2) (by omega) hM hL (k := b) (by omega)).conseq (KL.mono ?_)
      rintro r μ1 ⟨rfl, rfl⟩
      refine ⟨fun q3 => q2 (by have e : wl (fsum (fun k => hld ru ki lo k c) k) = wl 0 := q3; rw [wl_inj (by omega) (by omega) (by omega) (by omega)] at e; exact e), ?_⟩
      rw [if_neg q] at hQ
      unfold sur at hQ
      rw [show n = k by omega, if_pos (by omega)] at hQ
      rw [wl_mul, wl_tdiv (by omega) (by omega) (by omega) (by omega), wl_i, Int.mul_comm 1000, Int.tdiv_eq_ediv_of_nonneg (by omega)]
      exact hQ
  | succ f ih =>
    intro k b hk hb hQ
    have hF := fsumH_bd hM hL k
    have hH := hldM_b hM hL k
    have hB := hldM_b hM hL b
    unfold lkl at hQ
    refine B_MO_what_58 hM.1.o ?_
    rw [hM.2.2.1, w_lt (by omega) (by omega) (by omega) (by omega)]
    refine ⟨fun _ => ?_, fun q => absurd (by omega) q⟩
    refine (C_heldM (d := d + 2) (by omega) hM hL (k := k) (by omega)).conseq (KL.mono ?_)
    rintro r μ1 ⟨rfl, rfl⟩
    refine (C_heldM (d := d + 2) (by omega) hM hL (k := b) (by omega)).conseq (KL.mono ?_)
    rintro r μ1 ⟨rfl, rfl⟩
    rw [lgc (by omega) (by omega) (by omega) (by omega)]
    refine ⟨fun q => ?_, fun q => ?_⟩
    · refine (C_heldM (d := d + 2) (by omega) hM hL (k := k) (by omega)).conseq (KL.mono ?_)
      rintro r μ1 ⟨rfl, rfl⟩
      rw [if_pos q] at hQ
      rw [wl_add, w_add]
      exact ih (k + 1) k (by omega) (by omega) hQ
    · refine (C_heldM (d := d + 2) (by omega) hM hL (k := k) (by omega)).conseq (KL.mono ?_)
      rintro r μ1 ⟨rfl, rfl⟩
      rw [if_neg q] at hQ
      rw [wl_add, w_add]
      exact ih (k + 1) b (by omega) (by omega) hQ
theorem LKM_th (hL : LKM μ c lo) {μ' : XM} (ho : fr thr μ μ') : LKM μ' c lo := hL.fr ho (by unfold thr; omega) (fun j => by unfold thr; omega) (fun j => by unfold thr; omega)
theorem C_whatM (hd : 4 ≤ d) (hM : HM μ n ru ki) (hL : LKM μ c lo) {z : Int} (z1 : -2147483648 ≤ z) (z2 : z < 2147483648) : Call Γ m_MO_what d [.ref 547, .int (w z)] μ (KI (fun r μ' => fr thr μ μ' ∧ r = if 0 < n ∧ 0 ≤ z ∧ z ≤ 2 then w (wht ru ki lo n c z) else w (-1))) := by
  obtain ⟨d, rfl⟩ : ∃ e, d = e + 4 := ⟨d - 4, by omega⟩
  have hn := hM.2.1
  refine Call.of ok_MO_what (Nat.le_of_ble_eq_true rfl) (B_MO_what_0 hM.1.o ?_)
  rintro μ1 rfl
  have h0 := th0 μ
  have hM1 := HM_th hM h0
  have hL1 := LKM_th hL h0
  rw [hM1.2.2.1, w_inj (by omega) (by omega) (by omega) (by omega), w_l z1 z2]
  refine ⟨fun q => ⟨_, rfl, h0, by rw [if_neg (by omega)]⟩, fun q => ?_⟩
  refine (C_isIn (x := 0) (y := 2) (by omega) (by omega) (by omega) (by omega) (by omega) (by omega) (by omega)).conseq (KI.mono ?_)
  rintro r μ2 ⟨rfl, ⟨g1, g2, rfl⟩ | ⟨g1, rfl⟩⟩
  · refine ⟨fun q2 => absurd q2 w01, fun _ => ?_⟩
    rw [w_inj (by omega) (by omega) (by omega) (by omega)]
    unfold wht
    refine ⟨fun e => ?_, fun e => ?_⟩
    · refine (C_greatestBy (q := 1) (by omega) hM1 hL1 (by omega)).conseq (KL.mono ?_)
      rintro r μ3 ⟨rfl, rfl⟩
      refine (C_greatestBy (q := 0) (by omega) hM1 hL1 (by omega)).conseq (KL.mono ?_)
      rintro r μ3 ⟨rfl, rfl⟩
      have kb : ∀ q, q < 2 → ∀ k, k < n → 0 ≤ ki k q ∧ ki k q ≤ 9 := fun q hq k hk => by
        have kk := (hM.2.2.2.2.2 k hk).2
        unfold KK at kk
        rcases (show q = 0 ∨ q = 1 by omega) with e | e <;> rw [e] <;> omega
      have b1 := mxvM_bd hM1 hL1 1 10
      have b0 := mxvM_bd hM1 hL1 0 10
      rw [← gal_v (kb 1 (by omega))] at b1
      rw [← gal_v (kb 0 (by omega))] at b0
      rw [lgl (by omega) (by omega) (by omega) (by omega)]
      refine ⟨fun q3 => ⟨_, rfl, h0, ?_⟩, fun q3 => ⟨_, rfl, h0, ?_⟩⟩
      · rw [if_pos (show 0 < n ∧ 0 ≤ z ∧ z ≤ 2 by omega), if_pos e, if_pos q3]
      · rw [if_pos (show 0 < n ∧ 0 ≤ z ∧ z ≤ 2 by omega), if_pos e, if_neg q3]
    · refine whatM_G (d := d + 1) hM1 hL1 (by omega) g1 (by omega) n 0 0 (by omega) (Or.inr rfl) ⟨_, rfl, h0, ?_⟩
      have ek : lkl (fun k => hld ru ki lo k c) n 0 0 = lkl (fun k => hld ru ki lo k c) (n - 1) 1 0 := by
        have en : n = (n - 1) + 1 := by omega
        conv => lhs; rw [en]
        conv => lhs; unfold lkl
        rw [if_neg (by omega)]
      rw [if_pos (show 0 < n ∧ 0 ≤ z ∧ z ≤ 2 by omega), if_neg e, ek]
  · exact ⟨fun _ => ⟨_, rfl, h0, by rw [if_neg (by omega)]⟩, fun q2 => absurd rfl q2⟩
/-- what a look writes -/
def pkf (c j : Nat) : Prop := (c = 547 ∧ (j = 0 ∨ j = 43)) ∨ c = 564 ∨ c = 565
theorem thr_k (c j : Nat) (h : thr c j) : pkf c j := by unfold thr at h; unfold pkf; omega
theorem C_peekM (hd : 2 ≤ d) (hM : HM μ n ru ki) (hL : LKM μ c lo) {x y : Int} (x1 : -2147483648 ≤ x) (x2 : x < 2147483648) (y1 : -2147483648 ≤ y) (y2 : y < 2147483648) : Call Γ m_MO_peek d [.ref 547, .int (w x), .int (w y)] μ (KI (fun r μ' => fr pkf μ μ' ∧ ((PK n c x y ∧ r = w ((c + 1 : Nat) : Int) ∧ LKM μ' (c + 1) (lput lo c x y)) ∨ (¬ PK n c x y ∧ r = w (-1) ∧ LKM μ' c lo)))) := by
  obtain ⟨d, rfl⟩ : ∃ e, d = e + 1 := ⟨d - 1, by omega⟩
  have hn := hM.2.1
  have hc := hL.1
  refine Call.of ok_MO_peek (Nat.le_of_ble_eq_true rfl) (B_MO_peek_0 hM.1.o ?_)
  rintro μ1 rfl
  have h0 := (th0 μ).wide thr_k
  have hM1 := HM_th hM (th0 μ)
  have hL1 := LKM_th hL (th0 μ)
  unfold PK
  rw [hM1.2.2.1, w_inj (by omega) (by omega) (by omega) (by omega), w_l x1 x2, w_l y1 y2, w_inj (by omega) (by omega) (by omega) (by omega)]
  have no : ¬ (0 < n ∧ 0 ≤ x ∧ x ≤ 1 ∧ c < 12 ∧ x ≤ y ∧ (x = 0 → y ≤ 5) ∧ y ≤ 9) → KI (fun r μ' => fr pkf μ μ' ∧ (((0 < n ∧ 0 ≤ x ∧ x ≤ 1 ∧ c < 12 ∧ x ≤ y ∧ (x = 0 → y ≤ 5) ∧ y ≤ 9) ∧ r = w ((c + 1 : Nat) : Int) ∧ LKM μ' (c + 1) (lput lo c x y)) ∨ (¬ (0 < n ∧ 0 ≤ x ∧ x ≤ 1 ∧ c < 12 ∧ x ≤ y ∧ (x = 0 → y ≤ 5) ∧ y ≤ 9) ∧ r = w (-1) ∧ LKM μ' c lo))) (some (.int (w (-1)))) (sI μ 547 0 (w 0)) := fun q => ⟨_, rfl, h0, Or.inr ⟨q, rfl, hL1⟩⟩
  refine ⟨fun q => no (by omega), fun q => ?_⟩
  refine (C_isIn (x := 0) (y := 1) (by omega) (by omega) (by omega) (by omega) (by omega) (by omega) (by omega)).conseq (KI.mono ?_)
  rintro r μ2 ⟨rfl, ⟨g1, g2, rfl⟩ | ⟨g1, rfl⟩⟩
  · refine ⟨fun q2 => absurd q2 w01, fun _ => ?_⟩
    have tail : (x ≤ y ∧ (x = 0 → y ≤ 5) ∧ y ≤ 9) → ((xI (sI μ 547 0 (w 0)) 547 43 = w 12 → KI (fun r μ' => fr pkf μ μ' ∧ (((0 < n ∧ 0 ≤ x ∧ x ≤ 1 ∧ c < 12 ∧ x ≤ y ∧ (x = 0 → y ≤ 5) ∧ y ≤ 9) ∧ r = w ((c + 1 : Nat) : Int) ∧ LKM μ' (c + 1) (lput lo c x y)) ∨ (¬ (0 < n ∧ 0 ≤ x ∧ x ≤ 1 ∧ c < 12 ∧ x ≤ y ∧ (x = 0 → y ≤ 5) ∧ y ≤ 9) ∧ r = w (-1) ∧ LKM μ' c lo))) (some (.int (w (-1)))) (sI μ 547 0 (w 0))) ∧ (¬ xI (sI μ 547 0 (w 0)) 547 43 = w 12 → ∃ a4, xR (sI μ 547 0 (w 0)) 547 41 = some a4 ∧ inS (sI μ 547 0 (w 0)) 0 a4 (xI (sI μ 547 0 (w 0)) 547 43) ∧ ∀ μ6, μ6 = sI (sI μ 547 0 (w 0)) a4 (xI (sI μ 547 0 (w 0)) 547 43).toNatClampNeg (w x) → ∃ a7, xR μ6 547 42 = some a7 ∧ inS μ6 0 a7 (xI μ6 547 43) ∧ ∀ μ9, μ9 = sI μ6 a7 (xI μ6 547 43).toNatClampNeg (w y) → ∀ μ10, μ10 = sI μ9 547 43 ((xI μ9 547 43) + (w 1)) → KI (fun r μ' => fr pkf μ μ' ∧ (((0 < n ∧ 0 ≤ x ∧ x ≤ 1 ∧ c < 12 ∧ x ≤ y ∧ (x = 0 → y ≤ 5) ∧ y ≤ 9) ∧ r = w ((c + 1 : Nat) : Int) ∧ LKM μ' (c + 1) (lput lo c x y)) ∨ (¬ (0 < n ∧ 0 ≤ x ∧ x ≤ 1 ∧ c < 12 ∧ x ≤ y ∧ (x = 0 → y ≤ 5) ∧ y ≤ 9) ∧ r = w (-1) ∧ LKM μ' c lo))) (some (.int (xI μ10 547 43))) μ10)) := fun hy => by
      rw [hL1.2.1, w_inj (by omega) (by omega) (by omega) (by omega), w_cln (by omega)]
      refine ⟨fun e => no (by omega), fun e => ⟨564, hM1.1.r 41 564 rfl, inS_of sh563.1 (by omega) hM1.1.1 (by omega) (by omega) (by omega), ?_⟩⟩
      rintro μ6 rfl
      refine ⟨565, hM1.1.r 42 565 rfl, ?_⟩
      rw [xI_sI, if_neg (by omega), hL1.2.1, w_cln (by omega)]
      refine ⟨inS_of sh563.2 (by omega) hM1.1.1 (by omega) (by omega) (by omega), ?_⟩
      rintro μ9 rfl μ10 rfl
      have e43 : xI (sI (sI (sI μ 547 0 (w 0)) 564 c (w x)) 565 c (w y)) 547 43 = w c := by
        rw [xI_sI, if_neg (by omega), xI_sI, if_neg (by omega)]
        exact hL1.2.1
      rw [e43, w_add]
      have o3 : fr pkf (sI μ 547 0 (w 0)) (sI (sI (sI (sI μ 547 0 (w 0)) 564 c (w x)) 565 c (w y)) 547 43 (w ((c : Int) + 1))) := ((fr.sI (a := 564) (k := c) _ (w x) (Or.inr (Or.inl rfl))).trans (fr.sI (a := 565) (k := c) _ (w y) (Or.inr (Or.inr rfl)))).trans (fr.sI (a := 547) (k := 43) _ (w ((c : Int) + 1)) (Or.inl ⟨rfl, Or.inr rfl⟩))
      refine ⟨_, rfl, h0.trans o3, Or.inl ⟨by omega, ?_, by omega, ?_, fun i hi => ?_⟩⟩
      · rw [xI_sI, if_pos ⟨rfl, rfl⟩]; rfl
      · rw [xI_sI, if_pos ⟨rfl, rfl⟩]; rfl
      · have f3 : xI (sI (sI (sI (sI μ 547 0 (w 0)) 564 c (w x)) 565 c (w y)) 547 43 (w ((c : Int) + 1))) 564 i = if i = c then w x else xI (sI μ 547 0 (w 0)) 564 i := by
          rw [xI_sI, if_neg (by omega), xI_sI, if_neg (by omega), xI_sI]
          by_cases e : i = c
          · rw [if_pos ⟨rfl, e⟩, if_pos e]
          · rw [if_neg (fun z => e z.2), if_neg e]
        have f4 : xI (sI (sI (sI (sI μ 547 0 (w 0)) 564 c (w x)) 565 c (w y)) 547 43 (w ((c : Int) + 1))) 565 i = if i = c then w y else xI (sI μ 547 0 (w 0)) 565 i := by
          rw [xI_sI, if_neg (by omega), xI_sI]
          by_cases e : i = c
          · rw [if_pos ⟨rfl, e⟩, if_pos e]
          · rw [if_neg (fun z => e z.2), if_neg e, xI_sI, if_neg (by omega)]
        have l0 : lput lo c x y i 0 = if i = c then x else lo i 0 := by
          unfold lput
          by_cases e : i = c
          · rw [if_pos e, if_pos e, if_pos rfl]
          · rw [if_neg e, if_neg e]
        have l1 : lput lo c x y i 1 = if i = c then y else lo i 1 := by
          unfold lput
          by_cases e : i = c
          · rw [if_pos e, if_pos e, if_neg (by omega)]
          · rw [if_neg e, if_neg e]
        unfold LO
        rw [f3, f4, l0, l1]
        by_cases e : i = c
        · rw [if_pos e, if_pos e, if_pos e, if_pos e]
          exact ⟨rfl, rfl, by omega⟩
        · rw [if_neg e, if_neg e, if_neg e, if_neg e]
          exact hL1.2.2 i (by omega)
    refine ⟨fun e => ?_, fun e => ?_⟩
    · refine (C_isIn (v := y) (x := x) (y := 5) (by omega) (by omega) (by omega) (by omega) (by omega) (by omega) (by omega)).conseq (KI.mono ?_)
      rintro r μ3 ⟨rfl, ⟨g3, g4, rfl⟩ | ⟨g3, rfl⟩⟩
      · exact ⟨fun q2 => absurd q2 w01, fun _ => tail ⟨g3, fun _ => g4, by omega⟩⟩
      · exact ⟨fun _ => no (by omega), fun q2 => absurd rfl q2⟩
    · refine (C_isIn (v := y) (x := x) (y := 9) (by omega) (by omega) (by omega) (by omega) (by omega) (by omega) (by omega)).conseq (KI.mono ?_)
      rintro r μ3 ⟨rfl, ⟨g3, g4, rfl⟩ | ⟨g3, rfl⟩⟩
      · exact ⟨fun q2 => absurd q2 w01, fun _ => tail ⟨g3, fun z => absurd z e, g4⟩⟩
      · exact ⟨fun _ => no (by omega), fun q2 => absurd rfl q2⟩
  · exact ⟨fun _ => no (by omega), fun q2 => absurd rfl q2⟩
end NL
