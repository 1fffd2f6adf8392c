/-! EATING MONTH BY MONTH -/
def pc (t : Nat) : Nat := (if t.testBit 0 = true then 1 else 0) + (if t.testBit 1 = true then 1 else 0) + (if t.testBit 2 = true then 1 else 0) + (if t.testBit 3 = true then 1 else 0) + (if t.testBit 4 = true then 1 else 0) + (if t.testBit 5 = true then 1 else 0) + (if t.testBit 6 = true then 1 else 0) + (if t.testBit 7 = true then 1 else 0)
set_option maxRecDepth 100000 in
theorem bct_pc : ∀ t, t < 256 → bct (w ((t : Nat) : Int)) = w ((pc t : Nat) : Int) := by decide
set_option maxRecDepth 100000 in
theorem pc_le : ∀ s, s < 9 → ∀ t, t < 2 ^ s → pc t ≤ s := by decide
set_option maxRecDepth 100000 in
theorem and_lo : ∀ i, i < 8 → ∀ t, t < 256 → w ((t : Nat) : Int) &&& ((w 1 <<< (w ((i : Nat) : Int) &&& 31)) - w 1) = w ((t % 2 ^ i : Nat) : Int) := by decide
set_option maxRecDepth 100000 in
theorem and_no : ∀ i, i < 8 → ∀ t, t < 256 → t.testBit i = true → w ((t : Nat) : Int) &&& ((w 1 <<< (w ((i : Nat) : Int) &&& 31)) ^^^ w (-1)) = w ((t - 2 ^ i : Nat) : Int) := by decide
set_option maxRecDepth 100000 in
theorem hsb_b : ∀ i, i < 8 → ∀ t, t < 256 → hsb (w ((t : Nat) : Int)) i = t.testBit i := by decide
set_option maxRecDepth 100000 in
theorem pc_no : ∀ i, i < 8 → ∀ t, t < 256 → t.testBit i = true → 2 ^ i ≤ t ∧ pc t = pc (t - 2 ^ i) + 1 := by decide
set_option maxRecDepth 100000 in
theorem pc_ex : ∀ s, s < 9 → ∀ t, t < 2 ^ s → 0 < t → ∃ i, i < s ∧ t.testBit i = true := by decide
set_option maxRecDepth 100000 in
theorem pc_0 : ∀ t, t < 256 → (pc t = 0 ↔ t = 0) := by decide
/-- the greatest over the members of t below i -/
def bmx (g : Nat → Int) (t : Nat) : Nat → Int
  | 0 => 0
  | i + 1 => if t.testBit i = true then max (bmx g t i) (g i) else bmx g t i
theorem bmx_cg {g g' : Nat → Int} {t : Nat} : ∀ k, (∀ i, i < k → t.testBit i = true → g i = g' i) → bmx g t k = bmx g' t k
  | 0, _ => rfl
  | k + 1, h => by
    unfold bmx
    rw [bmx_cg k (fun i hi hb => h i (by omega) hb)]
    split
    · rw [h k (by omega) (by assumption)]
    · rfl
theorem bmx_bd {g : Nat → Int} {t : Nat} {B : Int} (hB : 0 ≤ B) : ∀ k, (∀ i, i < k → t.testBit i = true → g i ≤ B) → 0 ≤ bmx g t k ∧ bmx g t k ≤ B
  | 0, _ => ⟨Int.le_refl 0, hB⟩
  | k + 1, h => by
    have := bmx_bd hB k (fun i hi hb => h i (by omega) hb)
    unfold bmx
    split
    · have := h k (by omega) (by assumption); omega
    · exact this
theorem bmx_at {g : Nat → Int} {t : Nat} : ∀ k, (∀ i, i < k → t.testBit i = true → 0 ≤ g i) → (∃ i, i < k ∧ t.testBit i = true) → ∃ i, i < k ∧ t.testBit i = true ∧ g i = bmx g t k
  | 0, _, ⟨i, hi, _⟩ => absurd hi (by omega)
  | k + 1, h, ⟨i, hi, hb⟩ => by
    unfold bmx
    by_cases e : t.testBit k = true
    · rw [if_pos e]
      by_cases e2 : bmx g t k ≤ g k
      · exact ⟨k, by omega, e, by omega⟩
      · have hk := h k (by omega) e
        by_cases e3 : ∃ j, j < k ∧ t.testBit j = true
        · obtain ⟨j, j1, j2, j3⟩ := bmx_at k (fun i hi hb => h i (by omega) hb) e3
          exact ⟨j, by omega, j2, by omega⟩
        · have : bmx g t k = 0 := by
            have := bmx_bd (g := g) (t := t) (B := 0) (by omega) k (fun i hi hb => absurd ⟨i, hi, hb⟩ e3)
            omega
          exact absurd this (by omega)
    · rw [if_neg e]
      have : i < k := by
        rcases Nat.lt_succ_iff_lt_or_eq.mp hi with q | q
        · exact q
        · subst q; exact absurd hb e
      obtain ⟨j, j1, j2, j3⟩ := bmx_at k (fun i hi hb => h i (by omega) hb) ⟨i, this, hb⟩
      exact ⟨j, by omega, j2, j3⟩
theorem bmx_ge {g : Nat → Int} {t : Nat} : ∀ k i, i < k → t.testBit i = true → g i ≤ bmx g t k
  | 0, i, h, _ => by omega
  | k + 1, i, h, hb => by
    unfold bmx
    by_cases e : i = k
    · subst e
      rw [if_pos hb]
      omega
    · have := bmx_ge (g := g) k i (by omega) hb
      split <;> omega
/-- the most of t, with fuel -/
def bsf (G : Nat → Nat → Int) (s : Nat) : Nat → Nat → Int
  | 0, _ => 0
  | f + 1, t => bmx (fun i => G t i + bsf G s f (t - 2 ^ i)) t s
def bst (G : Nat → Nat → Int) (s t : Nat) : Int := bsf G s t t
theorem bsf_st {G : Nat → Nat → Int} {s : Nat} (hs : s ≤ 8) : ∀ f t, t ≤ f → bsf G s f t = bst G s t
  | 0, t, h => by rw [show t = 0 by omega]; rfl
  | f + 1, t, h => by
    unfold bst
    cases t with
    | zero =>
      show bmx _ 0 s = 0
      have := bmx_bd (g := fun i => G 0 i + bsf G s f (0 - 2 ^ i)) (t := 0) (B := 0) (by omega) s (fun i _ hb => absurd hb (by simp))
      omega
    | succ t =>
      unfold bsf
      refine bmx_cg s (fun i hi hb => ?_)
      have h1 : 1 ≤ 2 ^ i := Nat.one_le_two_pow
      show G (t + 1) i + bsf G s f (t + 1 - 2 ^ i) = G (t + 1) i + bsf G s t (t + 1 - 2 ^ i)
      rw [bsf_st hs f _ (by omega), bsf_st hs t _ (by omega)]
theorem bst_0 (G : Nat → Nat → Int) (s : Nat) : bst G s 0 = 0 := rfl
theorem bst_eq {G : Nat → Nat → Int} {s t : Nat} (hs : s ≤ 8) (ht : 0 < t) : bst G s t = bmx (fun i => G t i + bst G s (t - 2 ^ i)) t s := by
  obtain ⟨t, rfl⟩ : ∃ k, t = k + 1 := ⟨t - 1, by omega⟩
  unfold bst
  conv => lhs; unfold bsf
  refine bmx_cg s (fun i hi hb => ?_)
  have h1 : 1 ≤ 2 ^ i := Nat.one_le_two_pow
  show G (t + 1) i + bsf G s t (t + 1 - 2 ^ i) = G (t + 1) i + bsf G s (t + 1 - 2 ^ i) (t + 1 - 2 ^ i)
  rw [bsf_st hs t _ (by omega)]
  rfl
theorem bst_bd {G : Nat → Nat → Int} {s : Nat} (hs : s ≤ 8) (hG : ∀ t i, i < s → t < 256 → 0 ≤ G t i ∧ G t i ≤ 81) : ∀ f t, t ≤ f → t < 256 → 0 ≤ bst G s t ∧ bst G s t ≤ 81 * t := by
  intro f
  induction f with
  | zero => intro t h _; rw [show t = 0 by omega, bst_0]; omega
  | succ f ih =>
    intro t h h2
    by_cases e : t = 0
    · rw [e, bst_0]; omega
    · rw [bst_eq hs (by omega)]
      refine bmx_bd (by omega) s (fun i hi hb => ?_)
      have h1 := pc_no i (by omega) t h2 hb
      have h3 : 1 ≤ 2 ^ i := Nat.one_le_two_pow
      have := ih (t - 2 ^ i) (by omega) (by omega)
      have := hG t i hi h2
      omega
section HI
variable {Γ : XG} {d h n a s m : Nat} {ru : Nat → Int} {ki bx : Nat → Nat → Int} {ls : Int → Int → Int → Int → Int → Int → Int} {μ : XM} {Q : Option Value → XM → Prop}
/-- what box i is worth as the next, t still there -/
def gei (ls : Int → Int → Int → Int → Int → Int → Int) (ki bx : Nat → Nat → Int) (m s : Nat) (t i : Nat) : Int := vw ls ki bx m i ((s - pc t : Nat) : Int) ((s - pc t : Nat) : Int) ((pc (t % 2 ^ i) : Nat) : Int)
theorem gei_bd (hF : FQ μ h n ru ki s bx m ls) {t i : Nat} (hi : i < s) : 0 ≤ gei ls ki bx m s t i ∧ gei ls ki bx m s t i ≤ 81 := vw_bd hF.2.1 hF.2.2.2.1 hF.2.2.2.2 hi _ _ _
def ecr (c : Nat) : Prop := scr c ∨ c = 499 ∨ c = 500
theorem ecr_q (c : Nat) (h : ecr c) : qcr c := h.elim Or.inl (fun q => q.elim (fun q => Or.inr (Or.inr (Or.inl q))) (fun q => Or.inr (Or.inr (Or.inr (Or.inr (Or.inr (Or.inr q)))))))
theorem scr_e (c : Nat) (h : scr c) : ecr c := Or.inl h
/-- the table holds the most of all sets below T -/
def BT (μ : XM) (G : Nat → Nat → Int) (s T : Nat) : Prop := ∀ t, t < T → xI μ 499 t = w (bst G s t)
theorem sh499 : shp 499 = some (.inr (0, 256)) := rfl
theorem C_bestWithFirst (hd : 5 ≤ d) (hF : FQ μ h n ru ki s bx m ls) {t i T : Nat} (ht : t < 2 ^ s) (hi : i < s) (hb : t.testBit i = true) (hB : BT μ (gei ls ki bx m s) s T) (hT : t ≤ T) : Call Γ m_FB_bestWithFirst d [.ref 32, .int (w t), .int (w i)] μ (KI (fun r μ' => fof scr μ μ' ∧ r = w (gei ls ki bx m s t i + bst (gei ls ki bx m s) s (t - 2 ^ i)))) := by
  obtain ⟨d, rfl⟩ : ∃ e, d = e + 1 := ⟨d - 1, by omega⟩
  have hP := hF.2.2.2.1
  have hs := hP.2.1
  have h2 := pw_le hs
  have hp := pc_le s (by omega) t ht
  have hn := pc_no i (by omega) t (by omega) hb
  have h3 : 1 ≤ 2 ^ i := Nat.one_le_two_pow
  refine Call.of ok_FB_bestWithFirst (Nat.le_of_ble_eq_true rfl) (B_FB_bestWithFirst_0 hF.1.ob (hF.1.r 32 9 67 rfl) hP.1.ob ?_)
  refine (C_bitCount (by omega)).conseq (KI.mono ?_)
  rintro r μ1 ⟨rfl, rfl⟩
  refine (C_bitCount (by omega)).conseq (KI.mono ?_)
  rintro r μ1 ⟨rfl, rfl⟩
  refine ⟨hF.1.r 32 9 67 rfl, ?_⟩
  have hm : t % 2 ^ i ≤ t := Nat.mod_le _ _
  have hq := pc_le 8 (by omega) (t % 2 ^ i) (by omega)
  rw [and_lo i (by omega) t (by omega), bct_pc t (by omega), bct_pc _ (by omega), hP.2.2.2.1, w_sub, show (s : Int) - (pc t : Nat) = ((s - pc t : Nat) : Int) by omega]
  refine (C_valueThen (by omega) hF.1 hF.2.1 hF.2.2.1 hP hF.2.2.2.2 (by omega) hi (by omega) (by omega) (by omega) (by omega) (by omega) (by omega)).conseq (KI.mono ?_)
  rintro r μ2 ⟨ho, rfl⟩
  have hF2 := hF.sc ho
  have hl : t - 2 ^ i ≤ t := Nat.sub_le _ _
  rw [and_no i (by omega) t (by omega) hb, w_cln (by omega)]
  refine ⟨499, hF2.1.r 32 16 499 rfl, inb_of sh499 (by omega) hF2.1.1 (by omega) (by omega), ?_⟩
  rw [ho.1 499 (by unfold scr; omega), hB _ (by omega), w_add]
  exact ⟨_, rfl, ho, rfl⟩
theorem BT.fof {μ μ' : XM} {G : Nat → Nat → Int} {T : Nat} (h : BT μ G s T) (ho : fof scr μ μ') : BT μ' G s T := fun t ht => by rw [ho.1 499 (by unfold scr; omega)]; exact h t ht
/-- the place to eat first, of the set t -/
def fob (G : Nat → Nat → Int) (s t : Nat) : Nat → Nat → Nat
  | 0, _ => 0
  | f + 1, p => if t.testBit (s - 1 - p) = true ∧ G t (s - 1 - p) + bst G s (t - 2 ^ (s - 1 - p)) = bst G s t then p else fob G s t f (p + 1)
theorem fob_is {G : Nat → Nat → Int} {s t p : Nat} (hp : t.testBit (s - 1 - p) = true ∧ G t (s - 1 - p) + bst G s (t - 2 ^ (s - 1 - p)) = bst G s t) : ∀ f q, q ≤ p → p < q + f → (∀ r, q ≤ r → r < p → ¬ (t.testBit (s - 1 - r) = true ∧ G t (s - 1 - r) + bst G s (t - 2 ^ (s - 1 - r)) = bst G s t)) → fob G s t f q = p
  | 0, q, h1, h2, _ => by omega
  | f + 1, q, h1, h2, hn => by
    unfold fob
    by_cases e : q = p
    · subst e
      rw [if_pos hp]
    · rw [if_neg (hn q (Nat.le_refl _) (by omega))]
      exact fob_is hp f (q + 1) (by omega) (by omega) (fun r h3 h4 => hn r (by omega) h4)
theorem fob_in {G : Nat → Nat → Int} {s t : Nat} : ∀ f p, p + f = s → (∃ q, p ≤ q ∧ q < s ∧ t.testBit (s - 1 - q) = true ∧ G t (s - 1 - q) + bst G s (t - 2 ^ (s - 1 - q)) = bst G s t) → fob G s t f p < s ∧ t.testBit (s - 1 - fob G s t f p) = true ∧ G t (s - 1 - fob G s t f p) + bst G s (t - 2 ^ (s - 1 - fob G s t f p)) = bst G s t
  | 0, p, hp, ⟨q, h1, h2, _⟩ => absurd h2 (by omega)
  | f + 1, p, hp, ⟨q, h1, h2, h3⟩ => by
    unfold fob
    by_cases e : t.testBit (s - 1 - p) = true ∧ G t (s - 1 - p) + bst G s (t - 2 ^ (s - 1 - p)) = bst G s t
    · rw [if_pos e]
      exact ⟨by omega, e⟩
    · rw [if_neg e]
      refine fob_in f (p + 1) (by omega) ⟨q, ?_, h2, h3⟩
      rcases Nat.lt_or_eq_of_le h1 with q1 | q1
      · exact q1
      · subst q1; exact absurd h3 e
theorem fob_ok {G : Nat → Nat → Int} {s t : Nat} (hs : s ≤ 8) (hG : ∀ t i, i < s → t < 256 → 0 ≤ G t i ∧ G t i ≤ 81) (ht : t < 2 ^ s) (h0 : 0 < t) : fob G s t s 0 < s ∧ t.testBit (s - 1 - fob G s t s 0) = true ∧ G t (s - 1 - fob G s t s 0) + bst G s (t - 2 ^ (s - 1 - fob G s t s 0)) = bst G s t := by
  have h2 := pw_le hs
  obtain ⟨i, i1, i2, i3⟩ := bmx_at (g := fun i => G t i + bst G s (t - 2 ^ i)) (t := t) s (fun i hi hb => by
    have := hG t i hi (by omega)
    have hl : t - 2 ^ i ≤ t := Nat.sub_le _ _
    have := bst_bd hs hG (t - 2 ^ i) (t - 2 ^ i) (by omega) (by omega)
    show 0 ≤ G t i + bst G s (t - 2 ^ i)
    omega) (pc_ex s (by omega) t ht h0)
  rw [← bst_eq hs h0] at i3
  refine fob_in s 0 (by omega) ⟨s - 1 - i, by omega, by omega, ?_⟩
  rw [show s - 1 - (s - 1 - i) = i by omega]
  exact ⟨i2, i3⟩
/-- the places below p of the set t looked through: the most B, the first place q that gives it -/
def IVE (g : Nat → Int) (s t p : Nat) (B : Int) (q : Nat) : Prop := (B = -1 ∧ ∀ j, j < p → ¬ t.testBit (s - 1 - j) = true) ∨ (q < p ∧ t.testBit (s - 1 - q) = true ∧ g (s - 1 - q) = B ∧ (∀ j, j < p → t.testBit (s - 1 - j) = true → g (s - 1 - j) ≤ B) ∧ ∀ j, j < q → t.testBit (s - 1 - j) = true → g (s - 1 - j) < B)
theorem lt_sc {j p : Nat} (h : j < p + 1) : j < p ∨ j = p := by omega
theorem IVE.no {g : Nat → Int} {s t p : Nat} {B : Int} {q : Nat} (h : IVE g s t p B q) (e : ¬ t.testBit (s - 1 - p) = true) : IVE g s t (p + 1) B q := by
  rcases h with ⟨h1, h2⟩ | ⟨h1, h2, h3, h4, h5⟩
  · exact Or.inl ⟨h1, fun j hj => (lt_sc hj).elim (h2 j) (fun z => by rw [z]; exact e)⟩
  · exact Or.inr ⟨by omega, h2, h3, fun j hj hb => (lt_sc hj).elim (fun z => h4 j z hb) (fun z => absurd hb (by rw [z]; exact e)), h5⟩
theorem IVE.le {g : Nat → Int} {s t p : Nat} {B : Int} {q : Nat} (h : IVE g s t p B q) (g0 : 0 ≤ g (s - 1 - p)) (hl : ¬ B < g (s - 1 - p)) : IVE g s t (p + 1) B q := by
  rcases h with ⟨h1, h2⟩ | ⟨h1, h2, h3, h4, h5⟩
  · omega
  · exact Or.inr ⟨by omega, h2, h3, fun j hj hb => (lt_sc hj).elim (fun z => h4 j z hb) (fun z => by rw [z]; omega), h5⟩
theorem IVE.up {g : Nat → Int} {s t p : Nat} {B : Int} {q : Nat} (h : IVE g s t p B q) (e : t.testBit (s - 1 - p) = true) (hl : B < g (s - 1 - p)) : IVE g s t (p + 1) (g (s - 1 - p)) p := by
  rcases h with ⟨h1, h2⟩ | ⟨h1, h2, h3, h4, h5⟩
  · exact Or.inr ⟨by omega, e, rfl, fun j hj hb => (lt_sc hj).elim (fun z => absurd hb (h2 j z)) (fun z => by rw [z]; exact Int.le_refl _), fun j hj hb => absurd hb (h2 j hj)⟩
  · exact Or.inr ⟨by omega, e, rfl, fun j hj hb => (lt_sc hj).elim (fun z => Int.le_of_lt (Int.lt_of_le_of_lt (h4 j z hb) hl)) (fun z => by rw [z]; exact Int.le_refl _), fun j hj hb => Int.lt_of_le_of_lt (h4 j hj hb) hl⟩
theorem IVE.fin {G : Nat → Nat → Int} {s t : Nat} {B : Int} {q : Nat} (hs : s ≤ 8) (hG : ∀ t i, i < s → t < 256 → 0 ≤ G t i ∧ G t i ≤ 81) (ht : t < 2 ^ s) (h0 : 0 < t) (h : IVE (fun i => G t i + bst G s (t - 2 ^ i)) s t s B q) : B = bst G s t ∧ fob G s t s 0 = q := by
  have h2 := pw_le hs
  rcases h with ⟨h1, h2⟩ | ⟨h1, h2, h3, h4, h5⟩
  · obtain ⟨i, i1, i2⟩ := pc_ex s (by omega) t ht h0
    have := h2 (s - 1 - i) (by omega)
    rw [show s - 1 - (s - 1 - i) = i by omega] at this
    exact absurd i2 this
  · obtain ⟨i, i1, i2, i3⟩ := bmx_at (g := fun i => G t i + bst G s (t - 2 ^ i)) (t := t) s (fun i hi hb => by
      have := hG t i hi (by omega)
      have hl : t - 2 ^ i ≤ t := Nat.sub_le _ _
      have := bst_bd hs hG (t - 2 ^ i) (t - 2 ^ i) (by omega) (by omega)
      show 0 ≤ G t i + bst G s (t - 2 ^ i)
      omega) (pc_ex s (by omega) t ht h0)
    have k1 := bmx_ge (g := fun i => G t i + bst G s (t - 2 ^ i)) (t := t) s (s - 1 - q) (by omega) h2
    have k2 := h4 (s - 1 - i) (by omega) (by rw [show s - 1 - (s - 1 - i) = i by omega]; exact i2)
    rw [show s - 1 - (s - 1 - i) = i by omega] at k2
    rw [← bst_eq hs h0] at i3 k1
    have e : B = bst G s t := by
      have k1 : G t (s - 1 - q) + bst G s (t - 2 ^ (s - 1 - q)) ≤ bst G s t := k1
      have k2 : G t i + bst G s (t - 2 ^ i) ≤ B := k2
      have i3 : G t i + bst G s (t - 2 ^ i) = bst G s t := i3
      have h3 : G t (s - 1 - q) + bst G s (t - 2 ^ (s - 1 - q)) = B := h3
      omega
    refine ⟨e, fob_is ⟨h2, h3.trans e⟩ s 0 (Nat.zero_le _) (by omega) (fun r _ hr z => ?_)⟩
    have k5 : G t (s - 1 - r) + bst G s (t - 2 ^ (s - 1 - r)) < B := h5 r hr z.1
    have k6 := z.2
    omega
/-- the second table holds the place to eat first, of all sets below T -/
def FT (μ : XM) (G : Nat → Nat → Int) (s T : Nat) : Prop := ∀ t, 0 < t → t < T → xI μ 500 t = w (fob G s t s 0)
theorem sh500 : shp 500 = some (.inr (0, 256)) := rfl
theorem FT.fof {μ μ' : XM} {G : Nat → Nat → Int} {T : Nat} (h : FT μ G s T) (ho : fof scr μ μ') : FT μ' G s T := fun t h0 ht => by rw [ho.1 500 (by unfold scr; omega)]; exact h t h0 ht
theorem fillBest_i {t : Nat} (ht : t < 2 ^ s) (h0 : 0 < t) : ∀ (f p : Nat) (B : Int) (q : Nat) (μ : XM), p + f = s → FQ μ h n ru ki s bx m ls → BT μ (gei ls ki bx m s) s t → FT μ (gei ls ki bx m s) s t → xI μ 499 t = w B → (0 ≤ B → xI μ 500 t = w q) → -1 ≤ B → B ≤ 100000 → IVE (fun i => gei ls ki bx m s t i + bst (gei ls ki bx m s) s (t - 2 ^ i)) s t p B q → (∀ μ', fof ecr μ μ' → BT μ' (gei ls ki bx m s) s (t + 1) → FT μ' (gei ls ki bx m s) s (t + 1) → G Γ m_FB_fillBest (d + 6) (0, 0) Q 9 [.ref 32, .int (w ((t + 1 : Nat) : Int))] [] μ') → G Γ m_FB_fillBest (d + 6) (0, 0) Q 31 [.ref 32, .int (w t), .int (w p)] [] μ := by
  intro f
  induction f with
  | zero =>
    intro p B q μ hp hF hB hT e1 e2 c1 c2 hI hQ
    have hP := hF.2.2.2.1
    have hs := hP.2.1
    have h2 := pw_le hs
    have hG : ∀ t i, i < s → t < 256 → 0 ≤ gei ls ki bx m s t i ∧ gei ls ki bx m s t i ≤ 81 := fun t i hi _ => gei_bd hF hi
    refine B_FB_fillBest_31 hF.1.ob (hF.1.r 32 9 67 rfl) hP.1.ob ?_
    rw [hP.2.2.2.1, w_lt (by omega) (by omega) (by omega) (by omega)]
    refine ⟨fun z => absurd z (by omega), fun _ => ?_⟩
    rw [show p = s by omega] at hI
    obtain ⟨k1, k2⟩ := hI.fin hs hG ht h0
    have k3 := bst_bd hs hG t t (by omega) (by omega)
    have e3 := e2 (by omega)
    rw [w_add]
    refine hQ μ (fof.rf _ _) (fun t' ht' => ?_) (fun t' h' ht' => ?_)
    · by_cases e : t' = t
      · rw [e, e1, k1]
      · exact hB t' (by omega)
    · by_cases e : t' = t
      · rw [e, e3, k2]
      · exact hT t' h' (by omega)
  | succ f ih =>
    intro p B q μ hp hF hB hT e1 e2 c1 c2 hI hQ
    have hP := hF.2.2.2.1
    have hs := hP.2.1
    have h2 := pw_le hs
    have hG : ∀ t i, i < s → t < 256 → 0 ≤ gei ls ki bx m s t i ∧ gei ls ki bx m s t i ≤ 81 := fun t i hi _ => gei_bd hF hi
    refine B_FB_fillBest_31 hF.1.ob (hF.1.r 32 9 67 rfl) hP.1.ob ?_
    rw [hP.2.2.2.1, w_lt (by omega) (by omega) (by omega) (by omega)]
    refine ⟨fun _ => ?_, fun z => absurd (by omega) z⟩
    refine (C_indexOf (by omega) hP).conseq (KI.mono ?_)
    rintro r μ1 ⟨rfl, rfl⟩
    rw [show (s : Int) - 1 - p = ((s - 1 - p : Nat) : Int) by omega, w_add]
    have hb := hsb_b (s - 1 - p) (by omega) t (by omega)
    refine ⟨fun z => ?_, fun z => ?_⟩
    · rw [hsb_t z] at hb
      refine (C_bestWithFirst (d := d + 5) (by omega) hF ht (by omega) hb.symm hB (Nat.le_refl _)).conseq (KI.mono ?_)
      rintro r μ3 ⟨ho, rfl⟩
      have hF3 := hF.sc ho
      have hl : t - 2 ^ (s - 1 - p) ≤ t := Nat.sub_le _ _
      have v1 := bst_bd hs hG (t - 2 ^ (s - 1 - p)) (t - 2 ^ (s - 1 - p)) (by omega) (by omega)
      have v2 := hG t (s - 1 - p) (by omega) (by omega)
      have f1 : xI μ3 499 t = w B := by rw [ho.1 499 (by unfold scr; omega)]; exact e1
      refine ⟨499, hF3.1.r 32 16 499 rfl, inb_of sh499 (by omega) hF3.1.1 (by omega) (by omega), ?_⟩
      rw [w_cln (by omega), f1, w_lt (by omega) (by omega) (by omega) (by omega)]
      refine ⟨fun z2 => ⟨inS_of sh499 (by omega) hF3.1.1 (by omega) (by omega) (by omega), ?_⟩, fun z2 => ?_⟩
      · rintro μ4 rfl
        refine ⟨500, hF3.1.r 32 17 500 rfl, inS_of (μ := μ3) sh500 (by omega) hF3.1.1 (by omega) (by omega) (by omega), ?_⟩
        rintro μ5 rfl
        obtain ⟨V, eV⟩ : ∃ V, V = gei ls ki bx m s t (s - 1 - p) + bst (gei ls ki bx m s) s (t - 2 ^ (s - 1 - p)) := ⟨_, rfl⟩
        rw [← eV] at z2 ⊢
        have hI2 := hI.up hb.symm (show B < _ by rw [← eV]; exact z2)
        have hI3 : IVE (fun i => gei ls ki bx m s t i + bst (gei ls ki bx m s) s (t - 2 ^ i)) s t (p + 1) V p := by rw [eV]; exact hI2
        have g : fof ecr μ1 (sI (sI μ3 499 t (w V)) 500 t (w p)) := ((ho.wide scr_e).trans (fof.sI _ _ _ (Or.inr (Or.inl rfl)))).trans (fof.sI _ _ _ (Or.inr (Or.inr rfl)))
        refine ih (p + 1) V p _ (by omega) (hF.q (g.wide ecr_q)) (fun t' ht' => ?_) (fun t' h' ht' => ?_) ?_ (fun _ => ?_) (by omega) (by omega) hI3 (fun μ6 k1 k2 k3 => hQ μ6 (g.trans k1) k2 k3)
        · rw [xI_sI, if_neg (by omega), xI_sI, if_neg (by omega), ho.1 499 (by unfold scr; omega)]
          exact hB t' ht'
        · rw [xI_sI, if_neg (by omega), xI_sI, if_neg (by omega), ho.1 500 (by unfold scr; omega)]
          exact hT t' h' ht'
        · rw [xI_sI, if_neg (by omega), xI_sI, if_pos ⟨rfl, rfl⟩]
        · rw [xI_sI, if_pos ⟨rfl, rfl⟩]
      · exact ih (p + 1) B q μ3 (by omega) hF3 (hB.fof ho) (hT.fof ho) f1 (fun z3 => by rw [ho.1 500 (by unfold scr; omega)]; exact e2 z3) c1 c2 (hI.le (show 0 ≤ gei ls ki bx m s t (s - 1 - p) + bst (gei ls ki bx m s) s (t - 2 ^ (s - 1 - p)) by omega) z2) (fun μ4 k1 k2 k3 => hQ μ4 ((ho.wide scr_e).trans k1) k2 k3)
    · have hb' : ¬ t.testBit (s - 1 - p) = true := by rw [← hb]; exact hsb_f z
      refine ⟨499, hF.1.r 32 16 499 rfl, inb_of sh499 (by omega) hF.1.1 (by omega) (by omega), ?_⟩
      rw [w_cln (by omega), e1, w_lt (by omega) (by omega) (by omega) (by omega)]
      exact ⟨fun z2 => absurd z2 (by omega), fun _ => ih (p + 1) B q μ1 (by omega) hF hB hT e1 e2 c1 c2 (hI.no hb') hQ⟩
theorem fillBest_o : ∀ (f t : Nat) (μ : XM), t + f = 2 ^ s → 0 < t → FQ μ h n ru ki s bx m ls → BT μ (gei ls ki bx m s) s t → FT μ (gei ls ki bx m s) s t → (∀ μ', fof ecr μ μ' → BT μ' (gei ls ki bx m s) s (2 ^ s) → FT μ' (gei ls ki bx m s) s (2 ^ s) → Q none μ') → G Γ m_FB_fillBest (d + 6) (0, 0) Q 9 [.ref 32, .int (w t)] [] μ := by
  intro f
  induction f with
  | zero =>
    intro t μ ht h0 hF hB hT hQ
    have hP := hF.2.2.2.1
    have hs := hP.2.1
    have h2 := pw_le hs
    refine B_FB_fillBest_9 hF.1.ob (hF.1.r 32 9 67 rfl) hP.1.ob (hF.1.r 32 16 499 rfl) ?_
    rw [hP.2.2.2.1, shl_w hs, w_lt (by omega) (by omega) (by omega) (by omega)]
    exact ⟨fun q => absurd q (by omega), fun _ => hQ μ (fof.rf _ _) (by rw [← show t = 2 ^ s by omega]; exact hB) (by rw [← show t = 2 ^ s by omega]; exact hT)⟩
  | succ f ih =>
    intro t μ ht h0 hF hB hT hQ
    have hP := hF.2.2.2.1
    have hs := hP.2.1
    have h2 := pw_le hs
    refine B_FB_fillBest_9 hF.1.ob (hF.1.r 32 9 67 rfl) hP.1.ob (hF.1.r 32 16 499 rfl) ?_
    rw [hP.2.2.2.1, shl_w hs, w_lt (by omega) (by omega) (by omega) (by omega)]
    refine ⟨fun _ => ⟨inS_of sh499 (by omega) hF.1.1 (by omega) (by omega) (by omega), ?_⟩, fun q => absurd (by omega) q⟩
    rintro μ2 rfl
    rw [w_cln (by omega)]
    have g : fof ecr μ (sI μ 499 t (w (-1))) := fof.sI _ _ _ (Or.inr (Or.inl rfl))
    refine fillBest_i (by omega) h0 s 0 (-1) 0 _ (by omega) (hF.q (g.wide ecr_q)) (fun t' ht' => ?_) (fun t' h' ht' => ?_) ?_ (fun z => absurd z (by omega)) (by omega) (by omega) (Or.inl ⟨rfl, fun j hj => absurd hj (by omega)⟩) (fun μ2 g1 g2 g3 => ih (t + 1) μ2 (by omega) (by omega) (hF.q ((g.trans g1).wide ecr_q)) g2 g3 (fun μ3 g4 g5 g6 => hQ μ3 ((g.trans g1).trans g4) g5 g6))
    · rw [xI_sI, if_neg (by omega)]
      exact hB t' ht'
    · rw [xI_sI, if_neg (by omega)]
      exact hT t' h' ht'
    · rw [xI_sI, if_pos ⟨rfl, rfl⟩]
theorem C_fillBest (hd : 7 ≤ d) (hF : FQ μ h n ru ki s bx m ls) : Call Γ m_FB_fillBest d [.ref 32] μ (KV (fun μ' => fof ecr μ μ' ∧ BT μ' (gei ls ki bx m s) s (2 ^ s) ∧ FT μ' (gei ls ki bx m s) s (2 ^ s))) := by
  obtain ⟨d, rfl⟩ : ∃ e, d = e + 7 := ⟨d - 7, by omega⟩
  have h2 := pw_le hF.2.2.2.1.2.1
  refine Call.of ok_FB_fillBest (Nat.le_of_ble_eq_true rfl) (B_FB_fillBest_0 hF.1.ob (hF.1.r 32 16 499 rfl) ⟨inS_of sh499 (by omega) hF.1.1 (by omega) (by omega) (by omega), ?_⟩)
  rintro μ2 rfl
  have g0 : fof ecr μ (sI μ 499 (w 0).toNatClampNeg (w 0)) := fof.sI _ _ _ (Or.inr (Or.inl rfl))
  refine fillBest_o (d := d + 1) (2 ^ s - 1) 1 _ (by omega) (by omega) (hF.q (g0.wide ecr_q)) (fun t ht => ?_) (fun t h0 ht => absurd ht (by omega)) (fun μ3 g1 g2 g3 => ⟨rfl, g0.trans g1, g2, g3⟩)
  rw [show t = 0 by omega, bst_0, xI_sI, if_pos ⟨rfl, by decide⟩]
/-- the order as digits: f more, t still there -/
def bor (G : Nat → Nat → Int) (s : Nat) : Nat → Nat → Int → Int
  | 0, _, x => x
  | f + 1, t, x => bor G s f (t - 2 ^ (s - 1 - fob G s t s 0)) (x * 10 + fob G s t s 0)
theorem bestOrder_G : ∀ (f g t : Nat) (x : Int) (μ : XM), g + f = s → t < 2 ^ s → pc t = f → FQ μ h n ru ki s bx m ls → FT μ (gei ls ki bx m s) s (2 ^ s) → (∀ μ', fof scr μ μ' → Q (some (.int (w (bor (gei ls ki bx m s) s f t x)))) μ') → G Γ m_FB_bestOrder (d + 8) (0, 0) Q 16 [.ref 32, .int (w t), .int (w x), .int (w g)] [] μ := by
  intro f
  induction f with
  | zero =>
    intro g t x μ hg ht hp hF hT hQ
    have hP := hF.2.2.2.1
    have hs := hP.2.1
    refine B_FB_bestOrder_16 hF.1.ob (hF.1.r 32 9 67 rfl) hP.1.ob (hF.1.r 32 17 500 rfl) ?_
    rw [hP.2.2.2.1, w_lt (by omega) (by omega) (by omega) (by omega)]
    exact ⟨fun q => absurd q (by omega), fun _ => hQ μ (fof.rf _ _)⟩
  | succ f ih =>
    intro g t x μ hg ht hp hF hT hQ
    have hP := hF.2.2.2.1
    have hs := hP.2.1
    have h2 := pw_le hs
    have hG : ∀ t i, i < s → t < 256 → 0 ≤ gei ls ki bx m s t i ∧ gei ls ki bx m s t i ≤ 81 := fun t i hi _ => gei_bd hF hi
    have h0 : 0 < t := by have := pc_0 t (by omega); omega
    obtain ⟨p1, p2, p3⟩ := fob_ok hs hG ht h0
    refine B_FB_bestOrder_16 hF.1.ob (hF.1.r 32 9 67 rfl) hP.1.ob (hF.1.r 32 17 500 rfl) ?_
    rw [hP.2.2.2.1, w_lt (by omega) (by omega) (by omega) (by omega)]
    refine ⟨fun _ => ⟨inb_of sh500 (by omega) hF.1.1 (by omega) (by omega), ?_⟩, fun q => absurd (by omega) q⟩
    rw [w_cln (by omega), hT t h0 ht]
    refine (C_indexOf (by omega) hP).conseq (KI.mono ?_)
    rintro r μ4 ⟨rfl, rfl⟩
    have hl : t - 2 ^ (s - 1 - fob (gei ls ki bx m s) s t s 0) ≤ t := Nat.sub_le _ _
    have hn := pc_no (s - 1 - fob (gei ls ki bx m s) s t s 0) (by omega) t (by omega) p2
    rw [show (s : Int) - 1 - ((fob (gei ls ki bx m s) s t s 0 : Nat) : Int) = ((s - 1 - fob (gei ls ki bx m s) s t s 0 : Nat) : Int) by omega, and_no _ (by omega) t (by omega) p2, w_mul, w_add, w_add]
    exact ih (g + 1) _ _ μ4 (by omega) (by omega) (by omega) hF hT hQ
theorem pc_all : ∀ s, s < 9 → pc (2 ^ s - 1) = s := by decide
theorem C_eatF (hd : 9 ≤ d) (hF : FQ μ h n ru ki s bx m ls) {z : Int} (z1 : -2147483648 ≤ z) (z2 : z < 2147483648) : Call Γ m_FB_eat d [.ref 32, .int (w z)] μ (KI (fun r μ' => fof qcr μ μ' ∧ r = if 0 < n ∧ 0 ≤ z ∧ z ≤ 3 then w (if z = 0 then bor (gei ls ki bx m s) s s (2 ^ s - 1) 0 else if z = 1 then bst (gei ls ki bx m s) s (2 ^ s - 1) else fsum (eit ls ki bx m s (decide (z = 3))) s) else w (-1))) := by
  obtain ⟨d, rfl⟩ : ∃ e, d = e + 9 := ⟨d - 9, by omega⟩
  refine Call.of ok_FB_eat (Nat.le_of_ble_eq_true rfl) (B_FB_eat_0 hF.1.ob ?_)
  refine (C_hasHouse (by omega) hF.1 hF.2.1).conseq (KI.mono ?_)
  rintro r μ1 ⟨rfl, ⟨hn, rfl⟩ | ⟨hn, rfl⟩⟩
  · refine ⟨fun q => absurd q (by decide), fun _ => ?_⟩
    rw [w_lt (by omega) (by omega) (by omega) (by omega), w_lt (by omega) (by omega) (by omega) (by omega), w_lt (by omega) (by omega) (by omega) (by omega)]
    refine ⟨fun q => ⟨_, rfl, fof.rf _ _, by rw [if_neg (by omega)]⟩, fun q => ⟨fun q2 => ⟨_, rfl, fof.rf _ _, by rw [if_neg (by omega)]⟩, fun q2 => ⟨fun q3 => ?_, fun q3 => ?_⟩⟩⟩
    · refine (C_fillBest (by omega) hF).conseq (KV.mono ?_)
      rintro μ2 ⟨ho, hB, hT⟩
      have hF2 := hF.q (ho.wide ecr_q)
      have hP := hF2.2.2.2.1
      have hs := hP.2.1
      have h2 := pw_le hs
      rw [w_inj (by omega) (by omega) (by omega) (by omega)]
      refine ⟨fun q4 => ?_, fun q4 => ⟨499, hF2.1.r 32 16 499 rfl, 67, hF2.1.r 32 9 67 rfl, hP.1.ob, ?_⟩⟩
      · refine (Call.of ok_FB_bestOrder (Nat.le_of_ble_eq_true rfl) (B_FB_bestOrder_0 hF2.1.ob (hF2.1.r 32 9 67 rfl) hP.1.ob ?_) : Call Γ m_FB_bestOrder (d + 8) [.ref 32] μ2 _)
        rw [hP.2.2.2.1, shl_w hs, w_sub, show ((2 ^ s : Nat) : Int) - 1 = ((2 ^ s - 1 : Nat) : Int) by omega]
        refine bestOrder_G (d := d) s 0 (2 ^ s - 1) 0 μ2 (by omega) (by omega) (pc_all s (by omega)) hF2 hT (fun μ3 g => ⟨_, rfl, _, rfl, (ho.wide ecr_q).trans (g.wide scr_q), ?_⟩)
        rw [if_pos (show 0 < n ∧ 0 ≤ z ∧ z ≤ 3 by omega), if_pos q4]
      · rw [hP.2.2.2.1, shl_w hs, w_sub, show ((2 ^ s : Nat) : Int) - 1 = ((2 ^ s - 1 : Nat) : Int) by omega, w_cln (by omega), hB _ (by omega)]
        exact ⟨inb_of sh499 (by omega) hF2.1.1 (by omega) (by omega), _, rfl, ho.wide ecr_q, by rw [if_pos (show 0 < n ∧ 0 ≤ z ∧ z ≤ 3 by omega), if_neg q4, if_pos (by omega)]⟩
    · rw [w_inj (by omega) (by omega) (by omega) (by omega)]
      refine ⟨fun q4 => ?_, fun q4 => ?_⟩
      · refine (C_eatenInTurn (by omega) hF true).conseq (KI.mono ?_)
        rintro r μ2 ⟨ho, rfl⟩
        exact ⟨_, rfl, ho.wide scr_q, by rw [if_pos (show 0 < n ∧ 0 ≤ z ∧ z ≤ 3 by omega), if_neg (by omega), if_neg (by omega), decide_eq_true q4]⟩
      · refine (C_eatenInTurn (by omega) hF false).conseq (KI.mono ?_)
        rintro r μ2 ⟨ho, rfl⟩
        exact ⟨_, rfl, ho.wide scr_q, by rw [if_pos (show 0 < n ∧ 0 ≤ z ∧ z ≤ 3 by omega), if_neg (by omega), if_neg (by omega), decide_eq_false q4]⟩
  · exact ⟨fun _ => ⟨_, rfl, fof.rf _ _, by rw [if_neg (by omega)]⟩, fun q => absurd rfl q⟩
end HI
