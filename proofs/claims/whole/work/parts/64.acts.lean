/-! MEALS, ACTS, THE IMAGE -/
theorem sh281 : shp 281 = some (.inr (8, 100)) ∧ shp 389 = some (.inr (8, 100)) ∧ shp 78 = some (.inr (7, 40)) ∧ shp 79 = some (.inr (0, 40)) := ⟨rfl, rfl, rfl, rfl⟩
theorem shring : ∀ i, i < 100 → shp (282 + i) = some (.inr (0, 4)) ∧ shp (390 + i) = some (.inr (0, 4)) := by decide
/-- the ring at b holds the meals mg from lo - 60 on, below T -/
def MR (μ : XM) (b lo T : Nat) (mg : Nat → Nat → Int) : Prop := ∀ j, j < T → lo ≤ j + 60 → ∀ q, q < 4 → xI μ (b + j % 100) q = w (mg j q)
theorem MR.fof {P : Nat → Prop} {μ μ' : XM} {b lo T : Nat} {mg : Nat → Nat → Int} (h : MR μ b lo T mg) (ho : fof P μ μ') (hp : ∀ i, i < 100 → ¬ P (b + i)) : MR μ' b lo T mg := fun j h1 h2 q hq => by rw [ho.1 _ (hp _ (Nat.mod_lt _ (by omega)))]; exact h j h1 h2 q hq
theorem MR.less {μ : XM} {b lo lo' T T' : Nat} {mg : Nat → Nat → Int} (h : MR μ b lo T mg) (h1 : T' ≤ T) (h2 : lo ≤ lo') : MR μ b lo' T' mg := fun j j1 j2 q hq => h j (by omega) (by omega) q hq
/-- one meal more -/
def mput (mg : Nat → Nat → Int) (T : Nat) (k p g v : Int) : Nat → Nat → Int := fun j q => if j = T then (if q = 0 then k else if q = 1 then p else if q = 2 then g else v) else mg j q
def mcr (c : Nat) : Prop := c = 280 ∨ (282 ≤ c ∧ c < 382)
section MA
variable {Γ : XG} {d h n s m T lo : Nat} {ru : Nat → Int} {ki bx mg : Nat → Nat → Int} {ls : Int → Int → Int → Int → Int → Int → Int} {μ : XM} {Q : Option Value → XM → Prop}
theorem w_remn {a b : Nat} (h : a < 2147483648) (h0 : 0 < b) (h1 : b < 2147483648) : w (a : Int) - w (a : Int) / w (b : Int) * w (b : Int) = w ((a % b : Nat) : Int) := by
  rw [w_rem (by omega) (by omega) (by omega) (by omega)]
  congr 1
theorem C_meAdd (hd : 1 ≤ d) (hR : RF μ) (hT : xI μ 280 1 = w T) (hT2 : T < 1000000) (hl : T < lo + 40) (hM : MR μ 282 lo T mg) {k p g v : Int} : Call Γ m_Me_add d [.ref 280, .int (w k), .int (w p), .int (w g), .int (w v)] μ (KV (fun μ' => fof mcr μ μ' ∧ xI μ' 280 1 = w ((T + 1 : Nat) : Int) ∧ MR μ' 282 lo (T + 1) (mput mg T k p g v))) := by
  obtain ⟨d, rfl⟩ : ∃ e, d = e + 1 := ⟨d - 1, by omega⟩
  have hm : T % 100 < 100 := Nat.mod_lt _ (by omega)
  have hs := (shring (T % 100) hm).1
  refine Call.of ok_Me_add (Nat.le_of_ble_eq_true rfl) (B_Me_add_0 (hR.o rfl (by omega)) (hR.r 280 0 281 rfl) ?_)
  rw [hT, show w 100 = w ((100 : Nat) : Int) from rfl, w_remn (by omega) (by omega) (by omega), w_cln (by omega)]
  have iS : ∀ (μ' : XM) (q : Int), xN μ' = xN μ → 0 ≤ q → q < 4 → inS μ' 0 (282 + T % 100) (w q) := fun μ' q e q1 q2 => inS_of hs (by omega) (by rw [e]; exact hR.1) q1 (by omega) (by omega)
  refine ⟨by decide, inb_of sh281.1 (by omega) hR.1 (by omega) (by omega), 282 + T % 100, (hR.2.2.2.2.2.2.1 (T % 100) hm).1, iS _ _ rfl (by omega) (by omega), ?_⟩
  rintro μ4 rfl
  refine ⟨iS _ _ rfl (by omega) (by omega), ?_⟩
  rintro μ6 rfl
  refine ⟨iS _ _ rfl (by omega) (by omega), ?_⟩
  rintro μ8 rfl
  refine ⟨iS _ _ rfl (by omega) (by omega), ?_⟩
  rintro μ10 rfl μ11 rfl
  have pm : mcr (282 + T % 100) := Or.inr (by omega)
  refine ⟨rfl, ((((fof.sI _ _ _ pm).trans (fof.sI _ _ _ pm)).trans (fof.sI _ _ _ pm)).trans (fof.sI _ _ _ pm)).trans (fof.sI _ _ _ (Or.inl rfl)), ?_, fun j j1 j2 q hq => ?_⟩
  · rw [xI_sI, if_pos ⟨rfl, rfl⟩]
    simp (disch := omega) only [xI_sI, if_neg]
    rw [hT, w_add]
    rfl
  · have d0 : (w 0).toNatClampNeg = 0 := by decide
    have d1 : (w 1).toNatClampNeg = 1 := by decide
    have d2 : (w 2).toNatClampNeg = 2 := by decide
    have d3 : (w 3).toNatClampNeg = 3 := by decide
    have hj : j % 100 < 100 := Nat.mod_lt _ (by omega)
    rw [xI_sI, if_neg (by omega)]
    simp only [xI_sI, d0, d1, d2, d3, mput]
    by_cases e : j = T
    · subst e
      rcases (show q = 0 ∨ q = 1 ∨ q = 2 ∨ q = 3 by omega) with rfl | rfl | rfl | rfl <;> simp
    · have e2 : ¬ 282 + j % 100 = 282 + T % 100 := by omega
      rw [if_neg (fun z => e2 z.1), if_neg (fun z => e2 z.1), if_neg (fun z => e2 z.1), if_neg (fun z => e2 z.1), if_neg e]
      exact hM j (by omega) j2 q hq
theorem C_meLength (hd : 1 ≤ d) (hR : RF μ) (hT : xI μ 280 1 = w T) (hT2 : T < 1000000) : Call Γ m_Me_length d [.ref 280] μ (KI (fun r μ' => μ' = μ ∧ r = w ((min 60 T : Nat) : Int))) := by
  obtain ⟨d, rfl⟩ : ∃ e, d = e + 1 := ⟨d - 1, by omega⟩
  refine Call.of ok_Me_length (Nat.le_of_ble_eq_true rfl) (B_Me_length_0 (hR.o rfl (by omega)) ?_)
  rw [hT, jmin_w (by omega) (by omega) (by omega) (by omega)]
  refine ⟨_, rfl, rfl, ?_⟩
  congr 1
  omega
theorem C_meTold (hd : 1 ≤ d) (hR : RF μ) (hT : xI μ 280 1 = w T) (hT2 : T < 1000000) (hl : lo ≤ T) (hM : MR μ 282 lo T mg) {i q : Nat} (hi : i < min 60 T) (hq : q < 4) : Call Γ m_Me_told d [.ref 280, .int (w i), .int (w q)] μ (KI (fun r μ' => μ' = μ ∧ r = w (mg (T - 1 - i) q))) := by
  obtain ⟨d, rfl⟩ : ∃ e, d = e + 1 := ⟨d - 1, by omega⟩
  have hm : (T - 1 - i) % 100 < 100 := Nat.mod_lt _ (by omega)
  refine Call.of ok_Me_told (Nat.le_of_ble_eq_true rfl) (B_Me_told_0 (hR.o rfl (by omega)) (hR.r 280 0 281 rfl) ?_)
  rw [hT, w_sub, w_sub, show (T : Int) - 1 - i = ((T - 1 - i : Nat) : Int) by omega, show w 100 = w ((100 : Nat) : Int) from rfl, w_remn (by omega) (by omega) (by omega), w_cln (by omega), w_cln (by omega)]
  refine ⟨by decide, inb_of sh281.1 (by omega) hR.1 (by omega) (by omega), 282 + (T - 1 - i) % 100, (hR.2.2.2.2.2.2.1 _ hm).1, inb_of (shring _ hm).1 (by omega) hR.1 (by omega) (by omega), ?_⟩
  rw [hM (T - 1 - i) (by omega) (by omega) q hq]
  exact ⟨_, rfl, rfl, rfl⟩
/-- the values of the last i meals -/
def mvs (mg : Nat → Nat → Int) (T : Nat) : Nat → Int := fsum (fun i => mg (T - 1 - i) 3)
theorem valueInAll_G (hR : RF μ) (hT : xI μ 280 1 = w T) (hT2 : T < 1000000) (hl : lo ≤ T) (hM : MR μ 282 lo T mg) : ∀ (f i : Nat), i + f = min 60 T → Q (some (.int (w (mvs mg T (min 60 T))))) μ → G Γ m_Me_valueInAll (d + 2) (0, 0) Q 4 [.ref 280, .int (w (mvs mg T i)), .int (w i)] [] μ := by
  intro f
  induction f with
  | zero =>
    intro i hi hQ
    refine B_Me_valueInAll_4 (hR.o rfl (by omega)) ?_
    refine (C_meLength (by omega) hR hT hT2).conseq (KI.mono ?_)
    rintro r μ1 ⟨rfl, rfl⟩
    rw [w_lt (by omega) (by omega) (by omega) (by omega)]
    refine ⟨fun q => absurd q (by omega), fun _ => ?_⟩
    rw [show i = min 60 T by omega]
    exact hQ
  | succ f ih =>
    intro i hi hQ
    refine B_Me_valueInAll_4 (hR.o rfl (by omega)) ?_
    refine (C_meLength (by omega) hR hT hT2).conseq (KI.mono ?_)
    rintro r μ1 ⟨rfl, rfl⟩
    rw [w_lt (by omega) (by omega) (by omega) (by omega)]
    refine ⟨fun _ => ?_, fun q => absurd (by omega) q⟩
    refine (C_meTold (q := 3) (by omega) hR hT hT2 hl hM (by omega) (by omega)).conseq (KI.mono ?_)
    rintro r μ1 ⟨rfl, rfl⟩
    rw [w_add, w_add]
    exact ih (i + 1) (by omega) hQ
theorem C_valueInAll (hd : 2 ≤ d) (hR : RF μ) (hT : xI μ 280 1 = w T) (hT2 : T < 1000000) (hl : lo ≤ T) (hM : MR μ 282 lo T mg) : Call Γ m_Me_valueInAll d [.ref 280] μ (KI (fun r μ' => μ' = μ ∧ r = w (mvs mg T (min 60 T)))) := by
  obtain ⟨d, rfl⟩ : ∃ e, d = e + 2 := ⟨d - 2, by omega⟩
  exact Call.of ok_Me_valueInAll (Nat.le_of_ble_eq_true rfl) (B_Me_valueInAll_0 (valueInAll_G hR hT hT2 hl hM (min 60 T) 0 (by omega) ⟨_, rfl, rfl, rfl⟩))
theorem C_logF (hd : 2 ≤ d) (hR : RF μ) (hT : xI μ 280 1 = w T) (hT2 : T < 1000000) (hl : lo ≤ T) (hM : MR μ 282 lo T mg) {i q : Int} (i1 : -2147483648 ≤ i) (i2 : i < 2147483648) (q1 : -2147483648 ≤ q) (q2 : q < 2147483648) : Call Γ m_FB_log d [.ref 32, .int (w i), .int (w q)] μ (KI (fun r μ' => μ' = μ ∧ r = if 0 ≤ i ∧ i < ((min 60 T : Nat) : Int) ∧ 0 ≤ q ∧ q ≤ 3 then w (mg (T - 1 - i.toNat) q.toNat) else w (-1))) := by
  obtain ⟨d, rfl⟩ : ∃ e, d = e + 1 := ⟨d - 1, by omega⟩
  refine Call.of ok_FB_log (Nat.le_of_ble_eq_true rfl) (B_FB_log_0 hR.ob (hR.r 32 12 280 rfl) (hR.o rfl (by omega)) ?_)
  rw [w_lt (by omega) (by omega) (by omega) (by omega)]
  refine ⟨fun e => ⟨_, rfl, rfl, by rw [if_neg (by omega)]⟩, fun e => ?_⟩
  refine (C_meLength (by omega) hR hT hT2).conseq (KI.mono ?_)
  rintro r μ1 ⟨rfl, rfl⟩
  rw [w_lt (by omega) (by omega) (by omega) (by omega), w_lt (by omega) (by omega) (by omega) (by omega), w_lt (by omega) (by omega) (by omega) (by omega)]
  refine ⟨fun e2 => ⟨fun e3 => ⟨_, rfl, rfl, by rw [if_neg (by omega)]⟩, fun e3 => ⟨fun e4 => ⟨_, rfl, rfl, by rw [if_neg (by omega)]⟩, fun e4 => ⟨hR.r 32 12 280 rfl, ?_⟩⟩⟩, fun e2 => ⟨_, rfl, rfl, by rw [if_neg (by omega)]⟩⟩
  obtain ⟨i, rfl⟩ : ∃ j : Nat, i = j := ⟨i.toNat, by omega⟩
  obtain ⟨q, rfl⟩ : ∃ j : Nat, q = j := ⟨q.toNat, by omega⟩
  refine (C_meTold (by omega) hR hT hT2 hl hM (by omega) (by omega)).conseq (KI.mono ?_)
  rintro r μ1 ⟨rfl, rfl⟩
  exact ⟨_, rfl, rfl, by rw [if_pos (by omega)]; rfl⟩
/-- what is kept of the acts: c of them, the next goes to nx; the j-th oldest: as boxes ab, month am, aT meals ahead of it; e: how many meals more there may be -/
def AV (μ : XM) (n c nx T e : Nat) (as : Nat → Nat) (ab : Nat → Nat → Nat → Int) (am aT : Nat → Nat) : Prop := c ≤ 40 ∧ nx < 40 ∧ xI μ 77 3 = w c ∧ xI μ 77 2 = w nx ∧ ∀ j, j < c → PF μ (80 + 5 * ((nx + 40 - c + j) % 40)) (as j) (ab j) (am j) ∧ KN (ab j) (as j) n ∧ am j ≤ 999 ∧ xI μ 79 ((nx + 40 - c + j) % 40) = w (aT j) ∧ aT j ≤ T ∧ T + e ≤ aT j + (c - j) ∧ ∀ i, i < j → aT i ≤ aT j ∧ aT j ≤ aT i + (j - i)
theorem AV.fof {P : Nat → Prop} {μ μ' : XM} {c nx e : Nat} {as : Nat → Nat} {ab : Nat → Nat → Nat → Int} {am aT : Nat → Nat} (h : AV μ n c nx T e as ab am aT) (ho : fof P μ μ') (hp : ∀ c, 77 ≤ c → c < 280 → ¬ P c) : AV μ' n c nx T e as ab am aT := by
  obtain ⟨a1, a2, a3, a4, a5⟩ := h
  refine ⟨a1, a2, by rw [ho.1 77 (hp _ (by omega) (by omega))]; exact a3, by rw [ho.1 77 (hp _ (by omega) (by omega))]; exact a4, fun j hj => ?_⟩
  obtain ⟨b1, b2, b3, b4, b5⟩ := a5 j hj
  have hm : (nx + 40 - c + j) % 40 < 40 := Nat.mod_lt _ (by omega)
  exact ⟨b1.fof ho (fun c c1 c2 => hp c (by omega) (by omega)), b2, b3, by rw [ho.1 79 (hp _ (by omega) (by omega))]; exact b4, b5⟩
/-- lists of saved things: one more, the oldest goes where there are 40 -/
def shf {α : Type} (f : Nat → α) (c : Nat) (x : α) : Nat → α := fun j => if c < 40 then (if j = c then x else f j) else (if j = 39 then x else f (j + 1))
def acr (c : Nat) : Prop := c = 77 ∨ c = 79 ∨ (80 ≤ c ∧ c < 280)
theorem C_save {c nx : Nat} {as : Nat → Nat} {ab : Nat → Nat → Nat → Int} {am aT : Nat → Nat} (hd : 3 ≤ d) (hR : RF μ) (hP : PF μ 67 s bx m) (hK : KN bx s n) (hm9 : m ≤ 999) (hT2 : T < 1000000) (hA : AV μ n c nx T 0 as ab am aT) : Call Γ m_Ac_save d [.ref 77, .ref 67, .int (w T)] μ (KV (fun μ' => fof acr μ μ' ∧ AV μ' n (min 40 (c + 1)) ((nx + 1) % 40) T 1 (shf as c s) (shf ab c bx) (shf am c m) (shf aT c T))) := by
  obtain ⟨d, rfl⟩ : ∃ e, d = e + 1 := ⟨d - 1, by omega⟩
  obtain ⟨a1, a2, a3, a4, a5⟩ := hA
  obtain ⟨r1, r2⟩ := hR.2.2.2.2.2.1 nx a2
  refine Call.of ok_Ac_save (Nat.le_of_ble_eq_true rfl) (B_Ac_save_0 (hR.o rfl (by omega)) (hR.r 77 0 78 rfl) ?_)
  rw [a4, w_cln (by omega)]
  refine ⟨inb_of sh281.2.2.1 (by omega) hR.1 (by omega) (by omega), 80 + 5 * nx, r1, r2.ob, ?_⟩
  refine (C_copyFrom (by omega) hP r2 (by omega)).conseq (KV.mono ?_)
  rintro μ2 ⟨ho, hP2⟩
  have ho2 : fof acr μ μ2 := ho.fof (fun c c1 c2 => by unfold acr; omega)
  have hR2 := hR.of ho2.2.2.1 ho2.2.2.2
  rw [ho.1 77 (by omega), a4, w_cln (by omega)]
  refine ⟨79, hR2.r 77 1 79 rfl, inS_of sh281.2.2.2 (by omega) hR2.1 (by omega) (by omega) (by omega), ?_⟩
  rintro μ5 rfl
  refine ⟨by decide, ?_⟩
  rintro μ7 rfl μ8 rfl
  simp (disch := omega) only [xI_sI, if_neg]
  rw [ho.1 77 (by omega), ho.1 77 (by omega), a3, a4, w_add, w_add, show (nx : Int) + 1 = ((nx + 1 : Nat) : Int) by omega, show w 40 = w ((40 : Nat) : Int) from rfl, w_remn (by omega) (by omega) (by omega), jmin_w (by omega) (by omega) (by omega) (by omega)]
  have g : fof acr μ2 (sI (sI (sI μ2 79 nx (w T)) 77 2 (w (((nx + 1) % 40 : Nat) : Int))) 77 3 (w (min ((40 : Nat) : Int) ((c : Int) + 1)))) := ((fof.sI _ _ _ (by unfold acr; omega)).trans (fof.sI _ _ _ (by unfold acr; omega))).trans (fof.sI _ _ _ (by unfold acr; omega))
  have hm : (nx + 1) % 40 < 40 := Nat.mod_lt _ (by omega)
  refine ⟨rfl, ho2.trans g, by omega, hm, ?_, ?_, fun j hj => ?_⟩
  · rw [xI_sI, if_pos ⟨rfl, rfl⟩]
    congr 1
    omega
  · rw [xI_sI, if_neg (by omega), xI_sI, if_pos ⟨rfl, rfl⟩]
  · have pf : ∀ (a s : Nat) (bx : Nat → Nat → Int) (m : Nat), PF μ2 a s bx m → 80 ≤ a → PF (sI (sI (sI μ2 79 nx (w T)) 77 2 (w (((nx + 1) % 40 : Nat) : Int))) 77 3 (w (min ((40 : Nat) : Int) ((c : Int) + 1)))) a s bx m := fun a s bx m hp ha => hp.of (fun c c1 c2 j => by simp (disch := omega) only [xI_sI, if_neg]) rfl rfl
    have x79 : ∀ i, xI (sI (sI (sI μ2 79 nx (w T)) 77 2 (w (((nx + 1) % 40 : Nat) : Int))) 77 3 (w (min ((40 : Nat) : Int) ((c : Int) + 1)))) 79 i = if i = nx then w T else xI μ 79 i := by
      intro i
      rw [xI_sI, if_neg (by omega), xI_sI, if_neg (by omega), xI_sI, ho.1 79 (by omega)]
      simp only [true_and]
    by_cases e : j = min 40 (c + 1) - 1
    · have ei : ((nx + 1) % 40 + 40 - min 40 (c + 1) + j) % 40 = nx := by omega
      have s1 : ∀ {α : Type} (f : Nat → α) (x : α), shf f c x j = x := by
        intro α f x
        unfold shf
        by_cases e2 : c < 40
        · rw [if_pos e2, if_pos (by omega)]
        · rw [if_neg e2, if_pos (by omega)]
      rw [ei, x79, if_pos rfl, s1, s1, s1, s1]
      refine ⟨pf _ _ _ _ hP2 (by omega), hK, hm9, rfl, Nat.le_refl _, by omega, fun i hi => ?_⟩
      have s2 : ∃ i', i' < c ∧ shf aT c T i = aT i' ∧ i' + min 40 (c + 1) = i + c + 1 := by
        unfold shf
        by_cases e2 : c < 40
        · rw [if_pos e2, if_neg (by omega)]; exact ⟨i, by omega, rfl, by omega⟩
        · rw [if_neg e2, if_neg (by omega)]; exact ⟨i + 1, by omega, rfl, by omega⟩
      obtain ⟨i', i1, i2, i3⟩ := s2
      obtain ⟨-, -, -, -, b5, b6, -⟩ := a5 i' i1
      rw [i2]
      omega
    · have s1 : ∃ j', j' < c ∧ j' + min 40 (c + 1) = j + c + 1 ∧ ∀ {α : Type} (f : Nat → α) (x : α), shf f c x j = f j' := by
        by_cases e2 : c < 40
        · exact ⟨j, by omega, by omega, fun f x => by unfold shf; rw [if_pos e2, if_neg (by omega)]⟩
        · exact ⟨j + 1, by omega, by omega, fun f x => by unfold shf; rw [if_neg e2, if_neg (by omega)]⟩
      obtain ⟨j', j1, j2, j3⟩ := s1
      obtain ⟨b1, b2, b3, b4, b5, b6, b7⟩ := a5 j' j1
      have ei : ((nx + 1) % 40 + 40 - min 40 (c + 1) + j) % 40 = (nx + 40 - c + j') % 40 := by omega
      have en : ¬ (nx + 40 - c + j') % 40 = nx := by omega
      have hq : (nx + 40 - c + j') % 40 < 40 := Nat.mod_lt _ (by omega)
      rw [ei, x79, if_neg en, j3, j3, j3, j3]
      refine ⟨pf _ _ _ _ (b1.off ho (by omega)) (by omega), b2, b3, b4, b5, by omega, fun i hi => ?_⟩
      have s2 : ∃ i', i' < j' ∧ shf aT c T i = aT i' ∧ i' + min 40 (c + 1) = i + c + 1 := by
        unfold shf
        by_cases e2 : c < 40
        · rw [if_pos e2, if_neg (by omega)]; exact ⟨i, by omega, rfl, by omega⟩
        · rw [if_neg e2, if_neg (by omega)]; exact ⟨i + 1, by omega, rfl, by omega⟩
      obtain ⟨i', i1, i2, i3⟩ := s2
      have := b7 i' i1
      rw [i2]
      omega
theorem C_giveBack {c nx : Nat} {as : Nat → Nat} {ab : Nat → Nat → Nat → Int} {am aT : Nat → Nat} (hd : 3 ≤ d) (hR : RF μ) (hA : AV μ n (c + 1) nx T 0 as ab am aT) : Call Γ m_Ac_giveBack d [.ref 77, .ref 67] μ (KI (fun r μ' => fof (fun c => c = 77 ∨ (67 ≤ c ∧ c < 72)) μ μ' ∧ AV μ' n c ((nx + 39) % 40) (aT c) 0 as ab am aT ∧ PF μ' 67 (as c) (ab c) (am c) ∧ r = w (aT c))) := by
  obtain ⟨d, rfl⟩ : ∃ e, d = e + 1 := ⟨d - 1, by omega⟩
  obtain ⟨a1, a2, a3, a4, a5⟩ := hA
  obtain ⟨b1, b2, b3, b4, b5, b6, b7⟩ := a5 c (by omega)
  have hm : (nx + 39) % 40 < 40 := Nat.mod_lt _ (by omega)
  obtain ⟨r1, r2⟩ := hR.2.2.2.2.2.1 ((nx + 39) % 40) hm
  refine Call.of ok_Ac_giveBack (Nat.le_of_ble_eq_true rfl) (B_Ac_giveBack_0 (hR.o rfl (by omega)) (hR.r 77 0 78 rfl) hR.2.2.1.ob ?_)
  rw [a4, w_add, w_sub, show (nx : Int) + 40 - 1 = ((nx + 39 : Nat) : Int) by omega, show w 40 = w ((40 : Nat) : Int) from rfl, w_remn (by omega) (by omega) (by omega)]
  refine ⟨by decide, ?_⟩
  rintro μ2 rfl μ3 rfl
  simp (disch := omega) only [xI_sI, if_neg, if_pos, and_self, if_true, w_cln, a3, w_sub, and_true, true_and]
  rw [show ((c + 1 : Nat) : Int) - 1 = (c : Int) by omega]
  have g : fof (fun c => c = 77 ∨ (67 ≤ c ∧ c < 72)) μ (sI (sI μ 77 2 (w (((nx + 39) % 40 : Nat) : Int))) 77 3 (w c)) := (fof.sI _ _ _ (Or.inl rfl)).trans (fof.sI _ _ _ (Or.inl rfl))
  have e0 : (nx + 40 - (c + 1) + c) % 40 = (nx + 39) % 40 := by omega
  rw [e0] at b1 b4
  refine ⟨inb_of sh281.2.2.1 (by omega) hR.1 (by omega) (by omega), 80 + 5 * ((nx + 39) % 40), r1, ?_⟩
  refine (C_copyFrom (by omega) (b1.fof g (fun c c1 c2 => by omega)) (hR.2.2.1.of rfl rfl) (by omega)).conseq (KV.mono ?_)
  rintro μ5 ⟨ho, hP⟩
  have ho' := g.trans (ho.fof (P := fun c => c = 77 ∨ (67 ≤ c ∧ c < 72)) (fun c c1 c2 => by omega))
  have hR5 := hR.of ho'.2.2.1 ho'.2.2.2
  have x77 : ∀ j, xI μ5 77 j = if j = 3 then w c else if j = 2 then w (((nx + 39) % 40 : Nat) : Int) else xI μ 77 j := by
    intro j
    rw [ho.1 77 (by omega), xI_sI, xI_sI]
    simp only [true_and]
  have e2 : xI μ5 77 2 = w (((nx + 39) % 40 : Nat) : Int) := by rw [x77]; rfl
  rw [e2, w_cln (by omega)]
  refine ⟨79, hR5.r 77 1 79 rfl, inb_of sh281.2.2.2 (by omega) hR5.1 (by omega) (by omega), _, rfl, ho', ⟨by omega, hm, by rw [x77]; rfl, e2, fun j hj => ?_⟩, hP, ?_⟩
  · obtain ⟨c1, c2, c3, c4, c5, c6, c7⟩ := a5 j (by omega)
    have ej : ((nx + 39) % 40 + 40 - c + j) % 40 = (nx + 40 - (c + 1) + j) % 40 := by omega
    have hq : (nx + 40 - (c + 1) + j) % 40 < 40 := Nat.mod_lt _ (by omega)
    rw [ej]
    have := b7 j hj
    exact ⟨c1.fof ho' (fun c d1 d2 => by omega), c2, c3, by rw [ho'.1 79 (by omega)]; exact c4, this.1, by omega, c7⟩
  · rw [ho'.1 79 (by omega), b4]
end MA
