/-! HISTORIES, in the reference -/
theorem sh567 : shp 568 = some (.inr (0, 6)) ∧ shp 569 = some (.inr (0, 6)) ∧ shp 570 = some (.inr (0, 6)) := ⟨rfl, rfl, rfl⟩
set_option maxRecDepth 100000 in
theorem ib_clr : ∀ u, u < 64 → ∀ i, i < 6 → w ((u : Nat) : Int) &&& ((w 1 <<< (w ((i : Nat) : Int) &&& 31)) ^^^ w (-1)) = w ((u &&& (63 ^^^ 2 ^ i) : Nat) : Int) ∧ u &&& (63 ^^^ 2 ^ i) < 64 ∧ ∀ j, j < 6 → ((u &&& (63 ^^^ 2 ^ i)).testBit j = true ↔ (u.testBit j = true ∧ ¬ j = i)) := by decide +kernel
theorem btw_clr {e : Nat → Bool} {i : Nat} (hi : i < 6) : btw e 6 &&& ((w 1 <<< (w (i : Int) &&& 31)) ^^^ w (-1)) = btw (fun j => e j && decide (¬ j = i)) 6 := by
  obtain ⟨u, hu, hx, hP⟩ := btw_ib e 6 (by omega)
  obtain ⟨e1, e2, e3⟩ := ib_clr u hu i hi
  rw [hx, e1]
  have h1 : IBP (w ((u &&& (63 ^^^ 2 ^ i) : Nat) : Int)) (fun j => j < 6 ∧ (e j && decide (¬ j = i)) = true) := ⟨_, e2, rfl, fun j hj => by
    rw [e3 j hj, hP j hj]
    show (j < 6 ∧ e j = true) ∧ ¬ j = i ↔ j < 6 ∧ (e j && decide (¬ j = i)) = true
    rw [Bool.and_eq_true, decide_eq_true_iff]
    exact ⟨fun q => ⟨q.1.1, q.1.2, q.2⟩, fun q => ⟨⟨q.1, q.2.1⟩, q.2.2⟩⟩⟩
  exact h1.uq (btw_ib _ 6 (by omega))
def ghf (c j : Nat) : Prop := c = 568 ∨ c = 569 ∨ c = 570 ∨ (c = 547 ∧ (j = 51 ∨ j = 52 ∨ j = 53))
def g22 (c j : Nat) : Prop := c = 570 ∨ (c = 547 ∧ (j = 51 ∨ j = 53))
theorem g22_h {c j : Nat} (h : g22 c j) : ghf c j := by unfold g22 at h; unfold ghf; omega
def OF (μ : XM) (c : Nat → Nat) : Prop := ∀ j, j < 6 → xI μ 568 j = w (c j) ∧ c j ≤ 9
def PRX (μ : XM) (p : List Nat) : Prop := ∀ j, j < p.length → xI μ 569 j = w (p.getD j 0) ∧ p.getD j 0 ≤ 5
def dgp (p : List Nat) : Int := dgs (fun j => (p.getD j 0 : Nat)) p.length
def GSP (μ : XM) (rows : Nat) (rf : Int) (o : Option (List Nat × (Nat → Bool))) : Prop := xI μ 547 51 = w rows ∧ xI μ 547 52 = w rf ∧ match o with
  | none => rows = 0 ∧ xI μ 547 53 = w 63
  | some p => 0 < rows ∧ xI μ 547 53 = btw p.2 6 ∧ ∀ j, j < 6 → xI μ 570 j = w (p.1.getD j 0) ∧ p.1.getD j 0 ≤ 5
def hrf (i : Int) : List (List Nat) → Nat → Int → Int
  | [], _, rf => rf
  | a :: F, rc, rf => hrf i F (rc + 1) (if (rc : Int) = i then dgl a else rf)
def os1 (o : Option (List Nat × (Nat → Bool))) (a : List Nat) : List Nat × (Nat → Bool) := match o with
  | none => (a, fun _ => true)
  | some p => (p.1, fun j => p.2 j && decide (a.getD j 0 = p.1.getD j 0))
def ofo : Option (List Nat × (Nat → Bool)) → List (List Nat) → Option (List Nat × (Nat → Bool))
  | o, [] => o
  | o, a :: F => ofo (some (os1 o a)) F
section OM
variable {Γ : XG} {d n c : Nat} {fd : Nat → Nat → Int} {μ : XM} {Q : Option Value → XM → Prop} {ru : Nat → Int} {ki : Nat → Nat → Int}
theorem HM_gh (h : HM μ n ru ki) {μ' : XM} (ho : fr ghf μ μ') : HM μ' n ru ki := h.fr ho (fun k v e => by
  unfold ghf
  rintro (q | q | q | ⟨-, rfl | rfl | rfl⟩)
  · omega
  · omega
  · omega
  · exact nomatch e
  · exact nomatch e
  · exact nomatch e) (by unfold ghf; omega) (fun j => by unfold ghf; omega) (fun j => by unfold ghf; omega)
theorem FDM_gh (h : FDM μ c fd) {μ' : XM} (ho : fr ghf μ μ') : FDM μ' c fd := h.frm ho (fun c j q => by unfold ghf; omega) (by unfold ghf; omega)
theorem mayBe_G (hM : HM μ n ru ki) (hD : FDM μ c fd) {i k : Nat} (hi : i < 6) (hk : k < 6) (hY : fib fd c i k = true → Q (some (.int (w 1))) μ) (hN : ¬ fib fd c i k = true → Q (some (.int (w 0))) μ) : ∀ (f j : Nat), j + f = c → fib fd j i k = true → G Γ m_MO_mayBe (d + 1) (0, 0) Q 2 [.ref 547, .int (w i), .int (w k), .int (w j)] [] μ := by
  have c10 := hD.1
  have hR := hM.1
  intro f
  induction f with
  | zero =>
    intro j hj h1
    refine B_MO_mayBe_2 hR.o (hR.r 44 566 rfl) (hR.r 45 567 rfl) (hR.r 49 571 rfl) ?_
    rw [hD.2.1, w_lt (by omega) (by omega) (by omega) (by omega)]
    have e : j = c := by omega
    subst e
    exact ⟨fun q => absurd q (by omega), fun _ => hY h1⟩
  | succ f ih =>
    intro j hj h1
    obtain ⟨⟨e0, e1, e2⟩, b1, b2, b3, b4, b5⟩ := hD.2.2 j (by omega)
    refine B_MO_mayBe_2 hR.o (hR.r 44 566 rfl) (hR.r 45 567 rfl) (hR.r 49 571 rfl) ?_
    rw [hD.2.1, w_lt (by omega) (by omega) (by omega) (by omega), w_cln (by omega), e0, e1, e2, w_inj (by omega) (by omega) (by omega) (by omega), w_inj (by omega) (by omega) (by omega) (by omega), w_inj (by omega) (by omega) (by omega) (by omega), w_inj (by omega) (by omega) (by omega) (by omega), w_add]
    have nx : (fd j 0 = i → (fd j 1 = k ↔ fd j 2 = 1)) → G Γ m_MO_mayBe (d + 1) (0, 0) Q 2 [.ref 547, .int (w i), .int (w k), .int (w ((j : Int) + 1))] [] μ := fun q => by
      refine ih (j + 1) (by omega) ((fib_iff (j + 1)).mpr (fun t ht e => ?_))
      by_cases et : t = j
      · subst et; exact q e
      · exact (fib_iff j).mp h1 t (by omega) e
    have no : fd j 0 = i → ¬ (fd j 1 = k ↔ fd j 2 = 1) → Q (some (.int (w 0))) μ := fun q1 q => hN (fun z => q ((fib_iff c).mp z j (by omega) q1))
    refine ⟨fun _ => ⟨inb_of sh565.1 (by omega) hR.1 (by omega) (by omega), fun q => ⟨inb_of sh565.2.1 (by omega) hR.1 (by omega) (by omega), fun q2 => ⟨inb_of sh565.2.2 (by omega) hR.1 (by omega) (by omega), fun q3 => nx (by omega), fun q3 => no q (by omega)⟩, fun q2 => ⟨inb_of sh565.2.2 (by omega) hR.1 (by omega) (by omega), fun q3 => nx (by omega), fun q3 => no q (by omega)⟩⟩, fun q => nx (fun z => absurd z q)⟩, fun q => absurd (by omega) q⟩
theorem C_mayBe (hd : 1 ≤ d) (hM : HM μ n ru ki) (hD : FDM μ c fd) {i k : Nat} (hi : i < 6) (hk : k < 6) : Call Γ m_MO_mayBe d [.ref 547, .int (w i), .int (w k)] μ (KI (fun r μ' => μ' = μ ∧ ((fib fd c i k = true ∧ r = w 1) ∨ (¬ fib fd c i k = true ∧ r = w 0)))) := by
  obtain ⟨d, rfl⟩ : ∃ e, d = e + 1 := ⟨d - 1, by omega⟩
  refine Call.of ok_MO_mayBe (Nat.le_of_ble_eq_true rfl) (B_MO_mayBe_0 ?_)
  exact mayBe_G hM hD hi hk (fun h => ⟨_, rfl, rfl, Or.inl ⟨h, rfl⟩⟩) (fun h => ⟨_, rfl, rfl, Or.inr ⟨h, rfl⟩⟩) c 0 (by omega) rfl
theorem go_22n (hM : HM μ n ru ki) {a : List Nat} (ha : a.length = 6) (hp : PRX μ a) (h51 : xI μ 547 51 = w 0) (hQ : ∀ μ', fr g22 μ μ' → xI μ' 547 51 = w 1 → xI μ' 547 53 = xI μ 547 53 → (∀ j, j < 6 → xI μ' 570 j = w (a.getD j 0)) → Q none μ') : ∀ (f j : Nat) (μ1 : XM), j + f = 6 → fr (fun c _ => c = 570) μ μ1 → (∀ q, q < j → xI μ1 570 q = w (a.getD q 0)) → G Γ m_MO_goHistory (d + 1) (0, 0) Q 22 [.ref 547, jk, jk, jk, .int (w j)] [] μ1 := by
  intro f
  induction f with
  | zero =>
    intro j μ1 hj ho h1
    have hM1 : HM μ1 n ru ki := hM.fr ho (fun k v e => by omega) (by omega) (fun j => by omega) (fun j => by omega)
    refine B_MO_goHistory_22 hM1.1.o (hM1.1.r 48 570 rfl) (hM1.1.r 47 569 rfl) ?_
    rw [w_lt (by omega) (by omega) (by omega) (by omega)]
    refine ⟨fun q => absurd q (by omega), fun _ => ?_⟩
    rintro μ2 rfl
    rw [(ho.1 547 51 (by omega)).1, h51, w_add]
    refine hQ _ ((ho.wide (fun c j e => Or.inl e)).trans (fr.sI (F := g22) (a := 547) (k := 51) _ _ (Or.inr ⟨rfl, Or.inl rfl⟩))) (by rw [xI_sI, if_pos ⟨rfl, rfl⟩]; rfl) (by rw [xI_sI, if_neg (by omega), (ho.1 547 53 (by omega)).1]) (fun q hq => by rw [xI_sI, if_neg (by omega)]; exact h1 q (by omega))
  | succ f ih =>
    intro j μ1 hj ho h1
    have hM1 : HM μ1 n ru ki := hM.fr ho (fun k v e => by omega) (by omega) (fun j => by omega) (fun j => by omega)
    refine B_MO_goHistory_22 hM1.1.o (hM1.1.r 48 570 rfl) (hM1.1.r 47 569 rfl) ?_
    rw [w_lt (by omega) (by omega) (by omega) (by omega), w_cln (by omega), (ho.1 547 51 (by omega)).1, h51, (ho.1 569 j (by omega)).1, (hp j (by omega)).1, w_add]
    refine ⟨fun _ => ⟨fun _ => ⟨inb_of sh567.2.1 (by omega) hM1.1.1 (by omega) (by omega), ⟨by omega, inb_of sh567.2.2 (by omega) hM1.1.1 (by omega) (by omega)⟩, ?_⟩, fun q => absurd rfl q⟩, fun q => absurd (by omega) q⟩
    rintro μ7 rfl
    refine ih (j + 1) _ (by omega) (ho.trans (fr.sI (F := fun c _ => c = 570) (a := 570) (k := j) μ1 _ rfl)) (fun q hq => ?_)
    by_cases e : q = j
    · subst e
      rw [xI_sI, if_pos ⟨rfl, rfl⟩]
    · rw [xI_sI, if_neg (by omega)]; exact h1 q (by omega)
theorem go_22s (hM : HM μ n ru ki) {a b : List Nat} (ha : a.length = 6) (hp : PRX μ a) {rows : Nat} (hr : 0 < rows) (hr2 : rows < 100000) (h51 : xI μ 547 51 = w rows) (hb : ∀ j, j < 6 → xI μ 570 j = w (b.getD j 0) ∧ b.getD j 0 ≤ 5) {e : Nat → Bool} (hQ : ∀ μ', fr g22 μ μ' → xI μ' 547 51 = w ((rows + 1 : Nat) : Int) → xI μ' 547 53 = btw (fun q => e q && decide (a.getD q 0 = b.getD q 0)) 6 → (∀ j, j < 6 → xI μ' 570 j = xI μ 570 j) → Q none μ') : ∀ (f j : Nat) (μ1 : XM), j + f = 6 → fr (fun c q => c = 547 ∧ q = 53) μ μ1 → xI μ1 547 53 = btw (fun q => e q && decide (q < j → a.getD q 0 = b.getD q 0)) 6 → G Γ m_MO_goHistory (d + 1) (0, 0) Q 22 [.ref 547, jk, jk, jk, .int (w j)] [] μ1 := by
  intro f
  induction f with
  | zero =>
    intro j μ1 hj ho h1
    have hM1 : HM μ1 n ru ki := hM.fr ho (fun k v e => by rintro ⟨-, rfl⟩; exact nomatch e) (by omega) (fun j => by omega) (fun j => by omega)
    refine B_MO_goHistory_22 hM1.1.o (hM1.1.r 48 570 rfl) (hM1.1.r 47 569 rfl) ?_
    rw [w_lt (by omega) (by omega) (by omega) (by omega)]
    refine ⟨fun q => absurd q (by omega), fun _ => ?_⟩
    rintro μ2 rfl
    rw [(ho.1 547 51 (by omega)).1, h51, w_add]
    refine hQ _ ((ho.wide (fun c j e => Or.inr ⟨e.1, Or.inr e.2⟩)).trans (fr.sI (F := g22) (a := 547) (k := 51) _ _ (Or.inr ⟨rfl, Or.inl rfl⟩))) (by rw [xI_sI, if_pos ⟨rfl, rfl⟩]; rfl) ?_ (fun q hq => by rw [xI_sI, if_neg (by omega), (ho.1 570 q (by omega)).1])
    rw [xI_sI, if_neg (by omega), h1]
    refine btw_cg 6 (fun q hq => ?_)
    congr 1
    rw [decide_eq_decide]
    exact ⟨fun z => z (by omega), fun z _ => z⟩
  | succ f ih =>
    intro j μ1 hj ho h1
    have hM1 : HM μ1 n ru ki := hM.fr ho (fun k v e => by rintro ⟨-, rfl⟩; exact nomatch e) (by omega) (fun j => by omega) (fun j => by omega)
    have hbj := hb j (by omega)
    have haj := hp j (by omega)
    refine B_MO_goHistory_22 hM1.1.o (hM1.1.r 48 570 rfl) (hM1.1.r 47 569 rfl) ?_
    rw [w_lt (by omega) (by omega) (by omega) (by omega), w_cln (by omega), (ho.1 547 51 (by omega)).1, h51, (ho.1 569 j (by omega)).1, (ho.1 570 j (by omega)).1, haj.1, hbj.1, w_add, w_inj (by omega) (by omega) (by omega) (by omega), w_inj (by omega) (by omega) (by omega) (by omega), h1, btw_clr (by omega)]
    refine ⟨fun _ => ⟨fun q => absurd q (by omega), fun _ => ⟨inb_of sh567.2.2 (by omega) hM1.1.1 (by omega) (by omega), inb_of sh567.2.1 (by omega) hM1.1.1 (by omega) (by omega), fun q => ?_, fun q => ?_⟩⟩, fun q => absurd (by omega) q⟩
    · refine ih (j + 1) _ (by omega) ho ?_
      rw [h1]
      refine btw_cg 6 (fun v hv => ?_)
      congr 1
      rw [decide_eq_decide]
      refine ⟨fun z hv2 => ?_, fun z hv2 => z (by omega)⟩
      by_cases e2 : v = j
      · subst e2; omega
      · exact z (by omega)
    · rintro μ4 rfl
      refine ih (j + 1) _ (by omega) (ho.trans (fr.sI (F := fun c q => c = 547 ∧ q = 53) (a := 547) (k := 53) μ1 _ ⟨rfl, rfl⟩)) ?_
      rw [xI_sI, if_pos ⟨rfl, rfl⟩]
      refine btw_cg 6 (fun v hv => ?_)
      rw [Bool.and_assoc]
      congr 1
      rw [← Bool.decide_and, decide_eq_decide]
      refine ⟨fun z hv2 => z.1 (by omega), fun z => ⟨fun hv2 => z (by omega), fun e2 => ?_⟩⟩
      subst e2
      exact q (by rw [z (by omega)])
end OM
