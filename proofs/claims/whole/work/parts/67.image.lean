/-! YEARS; THE IMAGE -/
def itr {α : Type} (f : α → α) : Nat → α → α
  | 0, x => x
  | k + 1, x => itr f k (f x)
noncomputable def lvy (n : Nat) (ru : Nat → Int) (ki : Nat → Nat → Int) (ls : Int → Int → Int → Int → Int → Int → Int) (hab : Int) (k : Nat) (L : LL) : LL := itr (lvm n ru ki ls hab) k L
theorem lvy_0 (n : Nat) (ru : Nat → Int) (ki : Nat → Nat → Int) (ls : Int → Int → Int → Int → Int → Int → Int) (hab : Int) (L : LL) : lvy n ru ki ls hab 0 L = L := by unfold lvy itr; rfl
theorem lvy_s (n : Nat) (ru : Nat → Int) (ki : Nat → Nat → Int) (ls : Int → Int → Int → Int → Int → Int → Int) (hab : Int) (k : Nat) (L : LL) : lvy n ru ki ls hab (k + 1) L = lvy n ru ki ls hab k (lvm n ru ki ls hab L) := by unfold lvy; rw [itr]
section YE
variable {Γ : XG} {d h n s m T : Nat} {ru : Nat → Int} {ki bx mg : Nat → Nat → Int} {ls : Int → Int → Int → Int → Int → Int → Int} {μ : XM} {Q : Option Value → XM → Prop} {A : AA} {L : LL} {hab : Int}
theorem l2_3 (hh : Int) (x : Int64) (K : LL) : l2 (lv3 hh x K) = l2 K + 1 ∧ l3 (lv3 hh x K) = l3 K := ⟨rfl, rfl⟩
theorem l2_2 (K : LL) : l2 (lv2 ls ki K) = l2 K ∧ l3 (lv2 ls ki K) = if 0 < l0 K then l3 K + 1 else l3 K := ⟨rfl, rfl⟩
theorem l2_1 (K : LL) : l2 (lv1 n ru hab K) = l2 K ∧ l3 (lv1 n ru hab K) = l3 K := ⟨rfl, rfl⟩
theorem lvm_2 : l2 (lvm n ru ki ls hab L) = l2 L + 1 ∧ l3 (lvm n ru ki ls hab L) ≤ l3 L + 1 := by
  unfold lvm
  rw [(l2_3 _ _ _).1, (l2_3 _ _ _).2, (l2_2 _).1, (l2_2 _).2, (l2_1 _).1, (l2_1 _).2]
  exact ⟨Eq.refl _, by split <;> omega⟩
theorem lvy_2 : ∀ (k : Nat) (L : LL), l2 (lvy n ru ki ls hab k L) = l2 L + k ∧ l3 (lvy n ru ki ls hab k L) ≤ l3 L + k
  | 0, L => by rw [lvy_0]; omega
  | k + 1, L => by
    have h1 := lvy_2 k (lvm n ru ki ls hab L)
    have h2 := lvm_2 (n := n) (ru := ru) (ki := ki) (ls := ls) (hab := hab) (L := L)
    rw [lvy_s]
    omega
theorem years_G (hn : 0 < n) (hh0 : 0 ≤ hab) (hh1 : hab ≤ 9) {z : Nat} (hz : z ≤ 60) : ∀ (f k : Nat) (L : LL) (μ : XM), k + f = z → l3 L + f < 1000000 → l2 L + f ≤ 999 → xI μ 32 8 = w hab → FL μ h n ru ki ls L 0 → (∀ μ', fof wcr μ μ' → FL μ' h n ru ki ls (lvy n ru ki ls hab f L) 0 → Q (some (.int (w ((l2 L + f : Nat) : Int)))) μ') → G Γ m_FB_years (d + 7) (0, 0) Q 16 [.ref 32, .int (w z), jk, jk, .long (l6 L), jk, .int (w k)] [] μ := by
  intro f
  induction f with
  | zero =>
    intro k L μ hk hT hm hh hF hQ
    refine B_FB_years_16 hF.1.1.ob (hF.1.1.r 32 9 67 rfl) hF.1.2.2.2.1.1.ob ?_
    rw [w_lt (by omega) (by omega) (by omega) (by omega), hF.1.2.2.2.1.2.2.2.2.1]
    exact ⟨fun q => absurd q (by omega), fun _ => hQ μ (fof.rf _ _) (by rw [lvy_0]; exact hF)⟩
  | succ f ih =>
    intro k L μ hk hT hm hh hF hQ
    refine B_FB_years_16 hF.1.1.ob (hF.1.1.r 32 9 67 rfl) hF.1.2.2.2.1.1.ob ?_
    rw [w_lt (by omega) (by omega) (by omega) (by omega)]
    refine ⟨fun _ => ?_, fun q => absurd (by omega) q⟩
    refine (C_liveMonth (d := d + 6) (by omega) (by omega) hF hn (by omega) hh hh0 hh1).conseq (KL.mono ?_)
    rintro x μ1 ⟨ho, rfl, hF1⟩
    rw [w_add]
    have h2 := lvm_2 (n := n) (ru := ru) (ki := ki) (ls := ls) (hab := hab) (L := L)
    refine ih (k + 1) (lvm n ru ki ls hab L) μ1 (by omega) (by omega) (by omega) (by rw [ho.1 32 (by unfold wcr scr; omega)]; exact hh) hF1 (fun μ2 g1 g2 => ?_)
    rw [h2.1, show l2 L + 1 + f = l2 L + (f + 1) by omega]
    refine hQ μ2 (ho.trans g1) ?_
    rw [lvy_s]
    exact g2
theorem C_yearsF (hd : 8 ≤ d) (hT2 : T + 60 < 1000000) (hF : FS μ h n ru ki ls s bx m T mg A 0) (hh : xI μ 32 8 = w hab) (hh0 : 0 ≤ hab) (hh1 : hab ≤ 9) {z : Int} (z1 : -2147483648 ≤ z) (z2 : z < 2147483648) {x : Int64} : Call Γ m_FB_years d [.ref 32, .int (w z), .long x] μ (KI (fun r μ' => fof wcr μ μ' ∧ ((cpm n m z ∧ r = w ((m + z.toNat : Nat) : Int) ∧ FL μ' h n ru ki ls (lvy n ru ki ls hab z.toNat (s, bx, m, T, mg, A, x)) 0) ∨ (¬ cpm n m z ∧ r = w (-1) ∧ FS μ' h n ru ki ls s bx m T mg A 0)))) := by
  obtain ⟨d, rfl⟩ : ∃ e, d = e + 8 := ⟨d - 8, by omega⟩
  have h1 := hF.1
  have hR := h1.1
  refine Call.of ok_FB_years (Nat.le_of_ble_eq_true rfl) (B_FB_years_0 hR.ob ?_)
  refine (C_canPassMonths (by omega) hR h1.2.1 h1.2.2.2.1 z1 z2).conseq (KI.mono ?_)
  rintro r μ1 ⟨rfl, ⟨hz, rfl⟩ | ⟨hz, rfl⟩⟩
  · refine ⟨fun q => absurd q (by decide), fun _ => ?_⟩
    have hz' := hz
    unfold cpm at hz'
    obtain ⟨z, rfl⟩ : ∃ j : Nat, z = j := ⟨z.toNat, by omega⟩
    exact years_G (d := d + 1) (z := z) (by omega) hh0 hh1 (by omega) z 0 (s, bx, m, T, mg, A, x) μ1 (by omega) (by show T + z < 1000000; omega) (by show m + z ≤ 999; omega) hh hF (fun μ2 g1 g2 => ⟨_, rfl, g1, Or.inl ⟨hz, rfl, g2⟩⟩)
  · exact ⟨fun _ => ⟨_, rfl, fof.rf _ _, Or.inr ⟨hz, rfl, hF⟩⟩, fun q => absurd rfl q⟩
/-- two rings: the meals' and the image's -/
def RP (bf bt : Nat) : Prop := bf = 282 ∧ bt = 390 ∨ bf = 390 ∧ bt = 282
def rcr (bt c : Nat) : Prop := c = bt - 2 ∨ (bt ≤ c ∧ c < bt + 100)
theorem meCopy_G {bf bt : Nat} (hb : RP bf bt) : ∀ (f i : Nat) (μ : XM), i + f = 100 → RF μ → (∀ μ', fof (rcr bt) μ μ' → (∀ j, i ≤ j → j < 100 → ∀ q, q < 4 → xI μ' (bt + j) q = xI μ (bf + j) q) → (∀ j, j < i → ∀ q, q < 4 → xI μ' (bt + j) q = xI μ (bt + j) q) → xI μ' (bt - 2) 1 = xI μ (bf - 2) 1 → Q none μ') → G Γ m_Me_copyFrom (d + 2) (0, 0) Q 2 [.ref (bt - 2), .ref (bf - 2), .int (w i)] [] μ := by
  intro f
  induction f with
  | zero =>
    intro i μ hi hR hQ
    have oo : ∀ b, b = bf ∨ b = bt → zob μ (b - 2) 4 ∧ xR μ (b - 2) 0 = some (b - 1) := by
      intro b hbb
      have : b = 282 ∨ b = 390 := by unfold RP at hb; omega
      rcases this with rfl | rfl
      · exact ⟨hR.o rfl (by omega), hR.r 280 0 281 rfl⟩
      · exact ⟨hR.o rfl (by omega), hR.r 388 0 389 rfl⟩
    refine B_Me_copyFrom_2 (oo bf (Or.inl rfl)).1 (oo bt (Or.inr rfl)).1 (oo bf (Or.inl rfl)).2 (oo bt (Or.inr rfl)).2 ?_
    rw [w_lt (by omega) (by omega) (by omega) (by omega)]
    refine ⟨fun q => absurd q (by omega), fun _ => ?_⟩
    rintro μ1 rfl
    have hne : ¬ bt - 2 = bt + 0 := by unfold RP at hb; omega
    refine hQ _ (fof.sI _ _ _ (Or.inl rfl)) (fun j j1 j2 => absurd j2 (by omega)) (fun j j1 q _ => by rw [xI_sI, if_neg (by unfold RP at hb; omega)]) (by rw [xI_sI, if_pos ⟨rfl, rfl⟩])
  | succ f ih =>
    intro i μ hi hR hQ
    have oo : ∀ b, b = bf ∨ b = bt → zob μ (b - 2) 4 ∧ xR μ (b - 2) 0 = some (b - 1) ∧ zib μ 8 (b - 1) (w i) ∧ xR μ (b - 1) i = some (b + i) ∧ shp (b + i) = some (.inr (0, 4)) := by
      intro b hbb
      have : b = 282 ∨ b = 390 := by unfold RP at hb; omega
      rcases this with rfl | rfl
      · exact ⟨hR.o rfl (by omega), hR.r 280 0 281 rfl, inb_of sh281.1 (by omega) hR.1 (by omega) (by omega), (hR.2.2.2.2.2.2.1 i (by omega)).1, (shring i (by omega)).1⟩
      · exact ⟨hR.o rfl (by omega), hR.r 388 0 389 rfl, inb_of sh281.2.1 (by omega) hR.1 (by omega) (by omega), (hR.2.2.2.2.2.2.1 i (by omega)).2, (shring i (by omega)).2⟩
    obtain ⟨f1, f2, f3, f4, f5⟩ := oo bf (Or.inl rfl)
    obtain ⟨t1, t2, t3, t4, t5⟩ := oo bt (Or.inr rfl)
    refine B_Me_copyFrom_2 f1 t1 f2 t2 ?_
    rw [w_lt (by omega) (by omega) (by omega) (by omega), w_cln (by omega), w_add]
    refine ⟨fun _ => ⟨f3, bf + i, f4, t3, bt + i, t4, cpo_of f5 t5 (by unfold RP at hb; omega) (by unfold RP at hb; omega) (by unfold RP at hb; omega) hR.1 (by omega) (by omega), ?_⟩, fun q => absurd (by omega) q⟩
    rintro μ5 rfl
    have g : fof (rcr bt) μ (sC μ (bf + i) (bt + i) 4) := (off.sC (lo := bt) (hi := bt + 100) μ (bf + i) 4 (by omega) (by omega)).fof (fun c c1 c2 => Or.inr ⟨c1, c2⟩)
    refine ih (i + 1) _ (by omega) (hR.of rfl rfl) (fun μ' g1 g2 g3 g4 => hQ μ' (g.trans g1) (fun j j1 j2 q hq => ?_) (fun j j1 q hq => ?_) ?_)
    · by_cases e : j = i
      · subst e
        rw [g3 j (by omega) q hq, xI_sC, if_pos ⟨rfl, hq⟩]
      · rw [g2 j (by omega) j2 q hq, xI_sC, if_neg (by unfold RP at hb; omega)]
    · rw [g3 j (by omega) q hq, xI_sC, if_neg (by omega)]
    · rw [g4, xI_sC, if_neg (by unfold RP at hb; omega)]
theorem C_meCopy {bf bt : Nat} (hb : RP bf bt) (hd : 2 ≤ d) (hR : RF μ) : Call Γ m_Me_copyFrom d [.ref (bt - 2), .ref (bf - 2)] μ (KV (fun μ' => fof (rcr bt) μ μ' ∧ (∀ j, j < 100 → ∀ q, q < 4 → xI μ' (bt + j) q = xI μ (bf + j) q) ∧ xI μ' (bt - 2) 1 = xI μ (bf - 2) 1)) := by
  obtain ⟨d, rfl⟩ : ∃ e, d = e + 2 := ⟨d - 2, by omega⟩
  exact Call.of ok_Me_copyFrom (Nat.le_of_ble_eq_true rfl) (B_Me_copyFrom_0 (meCopy_G hb 100 0 μ (by omega) hR (fun μ' g1 g2 _ g4 => ⟨rfl, g1, fun j hj q hq => g2 j (by omega) hj q hq, g4⟩)))
/-- the image: whether there is one; its boxes, month, meals -/
def IM (μ : XM) (n : Nat) (k : Bool) (s : Nat) (bx : Nat → Nat → Int) (m T : Nat) (mg : Nat → Nat → Int) : Prop := xI μ 382 2 = w (if k = true then 1 else 0) ∧ (k = true → PF μ 383 s bx m ∧ KN bx s n ∧ m ≤ 999 ∧ xI μ 388 1 = w T ∧ MR μ 390 T T mg ∧ 0 < n)
theorem IM.fof {P : Nat → Prop} {μ μ' : XM} {k : Bool} (hI : IM μ n k s bx m T mg) (ho : fof P μ μ') (hp : ∀ c, 382 ≤ c → c < 490 → ¬ P c) : IM μ' n k s bx m T mg := ⟨by rw [ho.1 382 (hp _ (by omega) (by omega))]; exact hI.1, fun e => by
  obtain ⟨a1, a2, a3, a4, a5, a6⟩ := hI.2 e
  exact ⟨a1.fof ho (fun c c1 c2 => hp c (by omega) (by omega)), a2, a3, by rw [ho.1 388 (hp _ (by omega) (by omega))]; exact a4, a5.fof ho (fun i hi => hp _ (by omega) (by omega)), a6⟩⟩
def icr (c : Nat) : Prop := 382 ≤ c ∧ c < 490
theorem FS.fof {P : Nat → Prop} {μ' : XM} {e : Nat} (hF : FS μ h n ru ki ls s bx m T mg A e) (g : fof P μ μ') (hp : ∀ c, (32 ≤ c ∧ c < 72 ∨ 77 ≤ c ∧ c < 382 ∨ 502 ≤ c ∧ c < 547) → ¬ P c) : FS μ' h n ru ki ls s bx m T mg A e := by
  obtain ⟨⟨f1, f2, f3, f4, f5⟩, h2, h3, h4, nx, h5⟩ := hF
  exact ⟨⟨f1.of g.2.2.1 g.2.2.2, f2.fof g (fun c c1 c2 => hp c (by omega)), f3.fof g (hp _ (by omega)) (fun i hi => ⟨hp _ (by omega), hp _ (by omega)⟩), f4.fof g (fun c c1 c2 => hp c (by omega)), f5⟩, h2, by rw [g.1 280 (hp _ (by omega))]; exact h3, h4.fof g (fun i hi => hp _ (by omega)), nx, h5.fof g (fun c c1 c2 => hp c (by omega))⟩
theorem C_imageF (hd : 5 ≤ d) (hF : FS μ h n ru ki ls s bx m T mg A 0) {k : Bool} {si mi Ti : Nat} {bi mi2 : Nat → Nat → Int} (hI : IM μ n k si bi mi Ti mi2) : Call Γ m_FB_image d [.ref 32] μ (KI (fun r μ' => fof icr μ μ' ∧ FS μ' h n ru ki ls s bx m T mg A 0 ∧ ((0 < n ∧ r = w m ∧ IM μ' n true s bx m T mg) ∨ (n = 0 ∧ r = w (-1) ∧ IM μ' n k si bi mi Ti mi2)))) := by
  obtain ⟨d, rfl⟩ : ∃ e, d = e + 2 := ⟨d - 2, by omega⟩
  have h1 := hF.1
  have hR := h1.1
  refine Call.of ok_FB_image (Nat.le_of_ble_eq_true rfl) (B_FB_image_0 hR.ob ?_)
  refine (C_hasHouse (by omega) hR h1.2.1).conseq (KI.mono ?_)
  rintro r μ1 ⟨rfl, ⟨hn, rfl⟩ | ⟨hn, rfl⟩⟩
  · refine ⟨fun q => absurd q (by decide), fun _ => ⟨382, hR.r 32 13 382 rfl, 67, hR.r 32 9 67 rfl, 280, hR.r 32 12 280 rfl, hR.o rfl (by omega), ?_⟩⟩
    refine Call.of ok_Sn_keepOf (Nat.le_of_ble_eq_true rfl) (B_Sn_keepOf_0 (hR.o rfl (by omega)) (hR.r 382 0 383 rfl) hR.2.2.2.2.1.ob ?_)
    refine (C_copyFrom (by omega) h1.2.2.2.1 hR.2.2.2.2.1 (by omega)).conseq (KV.mono ?_)
    rintro μ2 ⟨ho2, hP2⟩
    have g2 : fof icr μ1 μ2 := ho2.fof (fun c c1 c2 => by unfold icr; omega)
    have hF2 := hF.fof g2 (fun c hc => by unfold icr; omega)
    have hR2 := hF2.1.1
    refine ⟨388, hR2.r 382 1 388 rfl, hR2.o rfl (by omega), ?_⟩
    refine (C_meCopy (bf := 282) (bt := 390) (Or.inl ⟨rfl, rfl⟩) (by omega) hR2).conseq (KV.mono ?_)
    rintro μ3 ⟨ho3, hr, ht⟩
    have g3 : fof icr μ2 μ3 := ho3.wide (fun c q => by unfold rcr at q; unfold icr; omega)
    have hF3 := hF2.fof g3 (fun c hc => by unfold icr; omega)
    rintro μ4 rfl
    have g4 : fof icr μ3 (sI μ3 382 2 (w 1)) := fof.sI _ _ _ (by unfold icr; omega)
    have hF4 := hF3.fof g4 (fun c hc => by unfold icr; omega)
    refine ⟨rfl, hF4.1.1.r 32 9 67 rfl, hF4.1.2.2.2.1.1.ob, _, rfl, (g2.trans g3).trans g4, hF4, Or.inl ⟨hn, hF4.1.2.2.2.1.2.2.2.2.1, by rw [xI_sI, if_pos ⟨rfl, rfl⟩]; rfl, fun _ => ⟨?_, h1.2.2.2.2, hF.2.1, ?_, ?_, hn⟩⟩⟩
    · exact (hP2.fof ho3 (fun c c1 c2 => by unfold rcr; omega)).of (fun c c1 c2 j => by rw [xI_sI, if_neg (by omega)]) rfl rfl
    · rw [xI_sI, if_neg (by omega)]
      exact ht.trans hF2.2.2.1
    · intro j j1 j2 q hq
      rw [xI_sI, if_neg (by omega), hr _ (Nat.mod_lt _ (by omega)) q hq]
      refine hF2.2.2.2.1 j j1 ?_ q hq
      obtain ⟨nx, hA⟩ := hF.2.2.2.2
      unfold alo
      by_cases e : aC A = 0
      · rw [if_pos e]; exact j2
      · rw [if_neg e]
        have := (hA.2.2.2.2 0 (by omega)).2.2.2.2.1
        omega
  · exact ⟨fun _ => ⟨_, rfl, fof.rf _ _, hF, Or.inr ⟨hn, rfl, hI⟩⟩, fun q => absurd rfl q⟩
theorem C_backF (hd : 5 ≤ d) (hF : FS μ h n ru ki ls s bx m T mg A 0) {k : Bool} {si mi Ti : Nat} {bi gi : Nat → Nat → Int} (hI : IM μ n k si bi mi Ti gi) : Call Γ m_FB_back d [.ref 32] μ (KI (fun r μ' => fof wcr μ μ' ∧ IM μ' n k si bi mi Ti gi ∧ ((k = true ∧ 0 < n ∧ r = w mi ∧ FS μ' h n ru ki ls si bi mi Ti gi (0, aS A, aB A, aM A, aT A) 0) ∨ (¬ (k = true ∧ 0 < n) ∧ r = w (-1) ∧ FS μ' h n ru ki ls s bx m T mg A 0)))) := by
  obtain ⟨d, rfl⟩ : ∃ e, d = e + 2 := ⟨d - 2, by omega⟩
  have h1 := hF.1
  have hR := h1.1
  refine Call.of ok_FB_back (Nat.le_of_ble_eq_true rfl) (B_FB_back_0 hR.ob ?_)
  refine (C_hasHouse (by omega) hR h1.2.1).conseq (KI.mono ?_)
  rintro r μ1 ⟨rfl, ⟨hn, rfl⟩ | ⟨hn, rfl⟩⟩
  · refine ⟨fun q => absurd q (by decide), fun _ => ⟨382, hR.r 32 13 382 rfl, hR.o rfl (by omega), ?_⟩⟩
    rw [hI.1]
    cases k with
    | false => exact ⟨fun _ => ⟨_, rfl, fof.rf _ _, hI, Or.inr ⟨fun q => absurd q.1 (by decide), rfl, hF⟩⟩, fun q => absurd rfl q⟩
    | true =>
      refine ⟨fun q => absurd q (by decide), fun _ => ⟨67, hR.r 32 9 67 rfl, 280, hR.r 32 12 280 rfl, ?_⟩⟩
      obtain ⟨a1, a2, a3, a4, a5, a6⟩ := hI.2 rfl
      refine Call.of ok_Sn_giveBack (Nat.le_of_ble_eq_true rfl) (B_Sn_giveBack_0 (hR.o rfl (by omega)) (hR.r 382 0 383 rfl) hR.2.2.1.ob (hR.o rfl (by omega)) ?_)
      refine (C_copyFrom (by omega) a1 hR.2.2.1 (by omega)).conseq (KV.mono ?_)
      rintro μ2 ⟨ho2, hP2⟩
      have hI2 := hI.fof (off_w ho2) (fun c c1 c2 => by unfold wcr scr; omega)
      have hR2 := hR.of ho2.2.2.1 ho2.2.2.2
      refine ⟨388, hR2.r 382 1 388 rfl, ?_⟩
      refine (C_meCopy (bf := 390) (bt := 282) (Or.inr ⟨rfl, rfl⟩) (by omega) hR2).conseq (KV.mono ?_)
      rintro μ3 ⟨ho3, hr, ht⟩
      have g3 : fof wcr μ2 μ3 := ho3.wide (fun c q => by unfold rcr at q; exact Or.inr (by omega))
      have hI3 := hI2.fof g3 (fun c c1 c2 => by unfold wcr scr; omega)
      have hR3 := hR2.of g3.2.2.1 g3.2.2.2
      refine ⟨rfl, 77, hR3.r 32 11 77 rfl, hR3.o rfl (by omega), ?_⟩
      rintro μ4 rfl
      have g4 : fof wcr μ3 (sI μ3 77 3 (w 0)) := fof.sI _ _ _ (Or.inr (by omega))
      have hI4 := hI3.fof g4 (fun c c1 c2 => by unfold wcr scr; omega)
      have hR4 : RF (sI μ3 77 3 (w 0)) := hR3.of rfl rfl
      have gg := ((off_w ho2).trans g3).trans g4
      have hP4 : PF (sI μ3 77 3 (w 0)) 67 si bi mi := (hP2.fof ho3 (fun c c1 c2 => by unfold rcr; omega)).of (fun c c1 c2 j => by rw [xI_sI, if_neg (by omega)]) rfl rfl
      obtain ⟨nx, hA⟩ := hF.2.2.2.2
      refine ⟨hR4.r 32 9 67 rfl, hP4.1.ob, _, rfl, gg, hI4, Or.inl ⟨rfl, hn, hP4.2.2.2.2.1, ⟨hR4, h1.2.1.fof gg (fun c c1 c2 => by unfold wcr scr; omega), h1.2.2.1.fof gg (by unfold wcr scr; omega) (fun i hi => by unfold wcr scr; omega), hP4, a2⟩, a3, ?_, ?_, nx, ?_⟩⟩
      · rw [xI_sI, if_neg (by omega)]
        exact ht.trans (hI2.2 rfl).2.2.2.1
      · intro j j1 j2 q hq
        rw [xI_sI, if_neg (by omega), hr _ (Nat.mod_lt _ (by omega)) q hq]
        exact (hI2.2 rfl).2.2.2.2.1 j j1 j2 q hq
      · refine ⟨by show 0 ≤ 40; omega, hA.2.1, by rw [xI_sI, if_pos ⟨rfl, rfl⟩]; rfl, ?_, fun j hj => absurd hj (by show ¬ j < 0; omega)⟩
        rw [xI_sI, if_neg (by omega), ho3.1 77 (by unfold rcr; omega), ho2.1 77 (by omega)]
        exact hA.2.2.2.1
  · exact ⟨fun _ => ⟨_, rfl, fof.rf _ _, hI, Or.inr ⟨fun q => by omega, rfl, hF⟩⟩, fun q => absurd rfl q⟩
end YE
