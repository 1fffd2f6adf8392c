/-! PLANS: runs and performances -/
/-- what is eaten by step i -/
def gav (ls : Int → Int → Int → Int → Int → Int → Int) (ki bx : Nat → Nat → Int) (m s : Nat) (pv : Nat → Nat → Int) (i : Nat) : Int := if pv i 0 = 1 then vpl ls ki bx m s (pv i 1).toNat else 0
/-- a run: f steps more, i the next; what was eaten, and the step that could not be (-1: none) -/
noncomputable def rnn (n : Nat) (ru : Nat → Int) (ki : Nat → Nat → Int) (ls : Int → Int → Int → Int → Int → Int → Int) (pv : Nat → Nat → Int) : Nat → Nat → Nat → (Nat → Nat → Int) → Nat → Int → Int × Int
  | 0, _, _, _, _, e => (e, -1)
  | f + 1, i, s, bx, m, e => @ite _ (stb n ru bx s m pv i) (Classical.propDecidable _) (rnn n ru ki ls pv f (i + 1) (ga0 s pv i) (ga1 ru bx s m pv i) (ga2 m pv i) (e + gav ls ki bx m s pv i)) (e, i)
section RN
variable {Γ : XG} {d h n s m T a p z : Nat} {ru : Nat → Int} {ki bx mg pv : Nat → Nat → Int} {ls : Int → Int → Int → Int → Int → Int → Int} {μ : XM} {Q : Option Value → XM → Prop} {A : AA}
def rcq (c : Nat) : Prop := scr c ∨ (72 ≤ c ∧ c ≤ 76)
theorem rcq_q (c : Nat) (h : rcq c) : qcr c := h.elim Or.inl (fun q => Or.inr (Or.inl q))
theorem run_G {y : Int} (y0 : 0 ≤ y) (y1 : y ≤ 1) : ∀ (f i s : Nat) (bx : Nat → Nat → Int) (m : Nat) (e : Int) (μ : XM), i + f = z → RF μ → HO μ h n ru ki → FW μ ls → PF μ 72 s bx m → KN bx s n → m ≤ 999 → PL μ p z pv → (∀ μ', fof rcq μ μ' → Q (some (.int (w (if y = 1 then (rnn n ru ki ls pv f i s bx m e).1 else (rnn n ru ki ls pv f i s bx m e).2)))) μ') → G Γ m_FB_run (d + 5) (0, 0) Q 52 [.ref 32, jk, .int (w y), .ref (506 + 9 * p), .int (w e), .int (w i)] [] μ := by
  intro f
  induction f with
  | zero =>
    intro i s bx m e μ hi hR hH hW hPi hK hm hP hQ
    have hz := hP.2.1
    refine B_FB_run_52 (hP.o hR) hR.ob (hR.r 32 10 72 rfl) hPi.1.ob ?_
    rw [hP.2.2.1, w_lt (by omega) (by omega) (by omega) (by omega)]
    refine ⟨fun q => absurd q (by omega), fun _ => ?_⟩
    have hQ := hQ μ (fof.rf _ _)
    refine ⟨fun q => ?_, fun q => ⟨fun q2 => absurd q2 (by omega), fun _ => ?_⟩⟩
    · rw [w_inj (by omega) (by omega) (by omega) (by omega)] at q
      rw [if_pos q] at hQ
      exact hQ
    · rw [w_inj (by omega) (by omega) (by omega) (by omega)] at q
      rw [if_neg q] at hQ
      exact hQ
  | succ f ih =>
    intro i s bx m e μ hi hR hH hW hPi hK hm hP hQ
    have hz := hP.2.1
    have hp := hP.1
    have hs := hPi.2.1
    refine B_FB_run_52 (hP.o hR) hR.ob (hR.r 32 10 72 rfl) hPi.1.ob ?_
    rw [hP.2.2.1, w_lt (by omega) (by omega) (by omega) (by omega)]
    refine ⟨fun _ => ?_, fun q => absurd (by omega) q⟩
    have e0 : rnn n ru ki ls pv (f + 1) i s bx m e = @ite _ (stb n ru bx s m pv i) (Classical.propDecidable _) (rnn n ru ki ls pv f (i + 1) (ga0 s pv i) (ga1 ru bx s m pv i) (ga2 m pv i) (e + gav ls ki bx m s pv i)) (e, (i : Int)) := by rw [rnn]
    rw [e0] at hQ
    refine (C_canBe (by omega) hR hH hPi hP (by omega)).conseq (KI.mono ?_)
    rintro r μ1 ⟨rfl, ⟨hb, rfl⟩ | ⟨hb, rfl⟩⟩
    · rw [if_pos hb] at hQ
      refine ⟨fun q => absurd q (by decide), fun _ => ?_⟩
      obtain ⟨r0, r1, r2, r3⟩ := hP.rr hR
      obtain ⟨⟨v0, v1, v2, v3⟩, hv⟩ := hP.2.2.2 i (by omega)
      unfold PV at hv
      have go : ∀ (μ2 : XM) (x : Int), fof scr μ1 μ2 → x = e + gav ls ki bx m s pv i → Call Γ m_FB_goApart (d + 4) [.ref 32, .ref (506 + 9 * p), .int (w i)] μ2 (KV (fun μ4 => G Γ m_FB_run (d + 5) (0, 0) Q 52 [.ref 32, jk, .int (w y), .ref (506 + 9 * p), .int (w x), .int (w i + w 1)] [] μ4)) := by
        intro μ2 x ho hx
        have hR2 := hR.of ho.2.2.1 ho.2.2.2
        have hH2 := hH.fof ho (fun c c1 c2 => by unfold scr; omega)
        refine (C_goApart (by omega) hR2 hH2 (hPi.fof ho (fun c c1 c2 => by unfold scr; omega)) hK hm (hP.fof ho (fun c c1 c2 => by unfold scr; omega)) (by omega) hb).conseq (KV.mono ?_)
        rintro μ3 ⟨ho3, hP3, hK3, hm3⟩
        have g : fof (fun c => 72 ≤ c ∧ c < 77) μ2 μ3 := ho3.fof (fun c c1 c2 => ⟨c1, c2⟩)
        have gg : fof rcq μ1 μ3 := (ho.wide (fun c q => Or.inl q)).trans (g.wide (fun c q => Or.inr (by omega)))
        rw [w_add, hx]
        exact ih (i + 1) _ _ _ _ μ3 (by omega) (hR2.of g.2.2.1 g.2.2.2) (hH2.fof g (fun c c1 c2 => by omega)) (hW.fof gg (by unfold rcq scr; omega) (fun i hi => by unfold rcq scr; omega)) hP3 hK3 hm3 (hP.fof gg (fun c c1 c2 => by unfold rcq scr; omega)) (fun μ4 g4 => hQ μ4 (gg.trans g4))
      refine ⟨507 + 9 * p, r0, hP.ib hR (q := 1) (by omega) (by omega) (by omega), ?_⟩
      rw [w_cln (by omega), v0, w_inj (by omega) (by omega) (by omega) (by omega)]
      refine ⟨fun q => ⟨hR.r 32 10 72 rfl, 508 + 9 * p, r1, hP.ib hR (q := 2) (by omega) (by omega) (by omega), ?_⟩, fun q => go μ1 e (fof.rf _ _) (by unfold gav; rw [if_neg q]; omega)⟩
      rw [v1]
      have hl : pv i 1 < s := by
        unfold stb at hb
        omega
      refine (C_indexOf (by omega) hPi).conseq (KI.mono ?_)
      rintro r μ1 ⟨rfl, rfl⟩
      rw [show (s : Int) - 1 - pv i 1 = ((s - 1 - (pv i 1).toNat : Nat) : Int) by omega]
      refine (C_valueOf (d := d + 4) (by omega) hR hH hW hPi hK (by omega) (by omega)).conseq (KI.mono ?_)
      rintro r μ2 ⟨ho, rfl⟩
      rw [w_add]
      exact go μ2 _ ho (by unfold gav vpl; rw [if_pos q])
    · rw [if_neg hb] at hQ
      have hQ := hQ μ1 (fof.rf _ _)
      refine ⟨fun _ => ⟨fun q => ?_, fun q => ⟨fun q2 => ?_, fun q2 => ?_⟩⟩, fun q => absurd rfl q⟩
      · rw [w_inj (by omega) (by omega) (by omega) (by omega)] at q
        rw [if_pos q] at hQ
        exact hQ
      · rw [w_inj (by omega) (by omega) (by omega) (by omega)] at q
        rw [if_neg q] at hQ
        exact hQ
      · rw [hP.2.2.1, w_lt (by omega) (by omega) (by omega) (by omega)] at q2
        exact absurd (by omega) q2
theorem C_runF (hd : 6 ≤ d) (hF : FQ μ h n ru ki s bx m ls) (hm : m ≤ 999) {k : Nat} (hk : xI μ 32 7 = w k) (hk4 : k ≤ 4) {pz : Nat → Nat} {pv : Nat → Nat → Nat → Int} (hP : ∀ p, p < k → PL μ p (pz p) (pv p)) {x y : Int} (x1 : -2147483648 ≤ x) (x2 : x < 2147483648) (y1 : -2147483648 ≤ y) (y2 : y < 2147483648) : Call Γ m_FB_run d [.ref 32, .int (w x), .int (w y)] μ (KI (fun r μ' => fof qcr μ μ' ∧ r = if 0 ≤ x ∧ x < k ∧ 0 ≤ y ∧ y ≤ 1 ∧ 0 < n then w (if y = 1 then (rnn n ru ki ls (pv x.toNat) (pz x.toNat) 0 s bx m 0).1 else (rnn n ru ki ls (pv x.toNat) (pz x.toNat) 0 s bx m 0).2) else w (-1000000))) := by
  obtain ⟨d, rfl⟩ : ∃ e, d = e + 6 := ⟨d - 6, by omega⟩
  have hR := hF.1
  refine Call.of ok_FB_run (Nat.le_of_ble_eq_true rfl) (B_FB_run_0 hR.ob ?_)
  refine (C_isPlanF (by omega) hR hk hk4 x1 x2).conseq (KI.mono ?_)
  rintro r μ1 ⟨rfl, ⟨g1, g2, rfl⟩ | ⟨g1, rfl⟩⟩
  · refine ⟨fun q => absurd q (by decide), fun _ => ?_⟩
    rw [w_lt (by omega) (by omega) (by omega) (by omega), w_lt (by omega) (by omega) (by omega) (by omega)]
    refine ⟨fun q => ⟨_, rfl, fof.rf _ _, by rw [if_neg (by omega)]⟩, fun q => ⟨fun q2 => ⟨_, rfl, fof.rf _ _, by rw [if_neg (by omega)]⟩, fun q2 => ?_⟩⟩
    refine (C_hasHouse (by omega) hR hF.2.1).conseq (KI.mono ?_)
    rintro r μ1 ⟨rfl, ⟨hn, rfl⟩ | ⟨hn, rfl⟩⟩
    · have hy := hR.pl g1 (by omega)
      refine ⟨fun q => absurd q (by decide), fun _ => ⟨66, hR.r 32 6 66 rfl, hy.1, _, hy.2, 72, hR.r 32 10 72 rfl, 67, hR.r 32 9 67 rfl, hR.2.2.2.1.ob, ?_⟩⟩
      refine (C_copyFrom (by omega) hF.2.2.2.1 hR.2.2.2.1 (by omega)).conseq (KV.mono ?_)
      rintro μ2 ⟨ho, hP2⟩
      have g : fof rcq μ1 μ2 := ho.fof (fun c c1 c2 => Or.inr (by omega))
      have hF2 := hF.q (g.wide rcq_q)
      refine run_G (d := d + 1) (by omega) (by omega) (pz x.toNat) 0 s bx m 0 μ2 (by omega) hF2.1 hF2.2.1 hF2.2.2.1 hP2 hF2.2.2.2.2 hm ((hP x.toNat (by omega)).fof g (fun c c1 c2 => by unfold rcq scr; omega)) (fun μ3 g3 => ⟨_, rfl, (g.trans g3).wide rcq_q, ?_⟩)
      rw [if_pos (show 0 ≤ x ∧ x < k ∧ 0 ≤ y ∧ y ≤ 1 ∧ 0 < n by omega)]
    · exact ⟨fun _ => ⟨_, rfl, fof.rf _ _, by rw [if_neg (by omega)]⟩, fun q => absurd rfl q⟩
  · exact ⟨fun _ => ⟨_, rfl, fof.rf _ _, by rw [if_neg (by omega)]⟩, fun q => absurd rfl q⟩
/-- meals, their number, and acts after step i -/
def gaT (T : Nat) (pv : Nat → Nat → Int) (i : Nat) : Nat := if pv i 0 = 1 then T + 1 else T
def gag (ls : Int → Int → Int → Int → Int → Int → Int) (ki bx : Nat → Nat → Int) (m s T : Nat) (mg pv : Nat → Nat → Int) (i : Nat) : Nat → Nat → Int := if pv i 0 = 1 then mput mg T (bx (s - 1 - (pv i 1).toNat) 0) (bx (s - 1 - (pv i 1).toNat) 1) (bx (s - 1 - (pv i 1).toNat) 2) (vpl ls ki bx m s (pv i 1).toNat) else mg
def gaA (ru : Nat → Int) (bx : Nat → Nat → Int) (s m T : Nat) (A : AA) (pv : Nat → Nat → Int) (i : Nat) : AA := if pv i 0 = 3 then mac A bx s m T (ru 2) (pv i 1).toNat else asav A s bx m T
/-- how it is behind a performance: steps done, boxes, month, meals, acts -/
def PT : Type := Nat × Nat × (Nat → Nat → Int) × Nat × Nat × (Nat → Nat → Int) × AA
def FP (μ : XM) (h n : Nat) (ru : Nat → Int) (ki : Nat → Nat → Int) (ls : Int → Int → Int → Int → Int → Int → Int) (X : PT) : Prop := FS μ h n ru ki ls X.2.1 X.2.2.1 X.2.2.2.1 X.2.2.2.2.1 X.2.2.2.2.2.1 X.2.2.2.2.2.2 0
noncomputable def pfm (n : Nat) (ru : Nat → Int) (ki : Nat → Nat → Int) (ls : Int → Int → Int → Int → Int → Int → Int) (pv : Nat → Nat → Int) : Nat → Nat → Nat → (Nat → Nat → Int) → Nat → Nat → (Nat → Nat → Int) → AA → PT
  | 0, i, s, bx, m, T, mg, A => (i, s, bx, m, T, mg, A)
  | f + 1, i, s, bx, m, T, mg, A => @ite _ (stb n ru bx s m pv i) (Classical.propDecidable _) (pfm n ru ki ls pv f (i + 1) (ga0 s pv i) (ga1 ru bx s m pv i) (ga2 m pv i) (gaT T pv i) (gag ls ki bx m s T mg pv i) (gaA ru bx s m T A pv i)) (i, s, bx, m, T, mg, A)
theorem perform_G : ∀ (f i s : Nat) (bx : Nat → Nat → Int) (m T : Nat) (mg : Nat → Nat → Int) (A : AA) (μ : XM), i + f = z → T + f < 1000000 → FS μ h n ru ki ls s bx m T mg A 0 → 0 < n → PL μ p z pv → (∀ μ', fof wcr μ μ' → FP μ' h n ru ki ls (pfm n ru ki ls pv f i s bx m T mg A) → Q (some (.int (w (pfm n ru ki ls pv f i s bx m T mg A).1))) μ') → G Γ m_FB_perform (d + 7) (0, 0) Q 26 [.ref 32, jk, .ref (506 + 9 * p), .int (w i)] [] μ := by
  intro f
  induction f with
  | zero =>
    intro i s bx m T mg A μ hi hT hF hn hP hQ
    have hz := hP.2.1
    have hR := hF.1.1
    refine B_FB_perform_26 (hP.o hR) hR.ob (hR.r 32 9 67 rfl) ?_
    rw [hP.2.2.1, w_lt (by omega) (by omega) (by omega) (by omega)]
    refine ⟨fun q => absurd q (by omega), fun _ => ?_⟩
    have e0 : pfm n ru ki ls pv 0 i s bx m T mg A = (i, s, bx, m, T, mg, A) := by rw [pfm]
    rw [e0] at hQ
    exact hQ μ (fof.rf _ _) hF
  | succ f ih =>
    intro i s bx m T mg A μ hi hT hF hn hP hQ
    have hz := hP.2.1
    have hp := hP.1
    have hR := hF.1.1
    have hPi := hF.1.2.2.2.1
    have hs := hPi.2.1
    have hm := hF.2.1
    refine B_FB_perform_26 (hP.o hR) hR.ob (hR.r 32 9 67 rfl) ?_
    rw [hP.2.2.1, w_lt (by omega) (by omega) (by omega) (by omega)]
    refine ⟨fun _ => ?_, fun q => absurd (by omega) q⟩
    have ey : stb n ru bx s m pv i → pfm n ru ki ls pv (f + 1) i s bx m T mg A = pfm n ru ki ls pv f (i + 1) (ga0 s pv i) (ga1 ru bx s m pv i) (ga2 m pv i) (gaT T pv i) (gag ls ki bx m s T mg pv i) (gaA ru bx s m T A pv i) := fun q => by rw [pfm]; exact if_pos q
    have en : ¬ stb n ru bx s m pv i → pfm n ru ki ls pv (f + 1) i s bx m T mg A = (i, s, bx, m, T, mg, A) := fun q => by rw [pfm]; exact if_neg q
    refine (C_canBe (by omega) hR hF.1.2.1 hPi hP (by omega)).conseq (KI.mono ?_)
    rintro r μ1 ⟨rfl, ⟨hb, rfl⟩ | ⟨hb, rfl⟩⟩
    · rw [ey hb] at hQ
      refine ⟨fun q => absurd q (by decide), fun _ => ?_⟩
      obtain ⟨r0, r1, r2, r3⟩ := hP.rr hR
      obtain ⟨⟨v0, v1, v2, v3⟩, hv⟩ := hP.2.2.2 i (by omega)
      unfold PV at hv
      have nx : ∀ (μ2 : XM), fof wcr μ1 μ2 → FS μ2 h n ru ki ls (ga0 s pv i) (ga1 ru bx s m pv i) (ga2 m pv i) (gaT T pv i) (gag ls ki bx m s T mg pv i) (gaA ru bx s m T A pv i) 0 → G Γ m_FB_perform (d + 7) (0, 0) Q 26 [.ref 32, jk, .ref (506 + 9 * p), .int (w i + w 1)] [] μ2 := by
        intro μ2 ho hF2
        rw [w_add]
        refine ih (i + 1) _ _ _ _ _ _ μ2 (by omega) ?_ hF2 hn (hP.fof ho (fun c c1 c2 => by unfold wcr scr; omega)) (fun μ3 g1 g2 => hQ μ3 (ho.trans g1) g2)
        unfold gaT
        split <;> omega
      have hb' := hb
      unfold stb at hb
      refine ⟨508 + 9 * p, r1, hP.ib hR (q := 2) (by omega) (by omega) (by omega), 507 + 9 * p, r0, hP.ib hR (q := 1) (by omega) (by omega) (by omega), ?_⟩
      rw [w_cln (by omega), v0, v1]
      refine ⟨fun e => ?_, fun e => ⟨509 + 9 * p, r2, hP.ib hR (q := 3) (by omega) (by omega) (by omega), 510 + 9 * p, r3, hP.ib hR (q := 4) (by omega) (by omega) (by omega), ?_⟩, fun e => ?_, fun e => ?_, fun e => ?_⟩
      · rw [w_lt (by omega) (by omega) (by omega) (by omega), w_lt (by omega) (by omega) (by omega) (by omega)] at e
        refine (C_offF (d := d + 6) (by omega) (by omega) hF (by omega) (by omega)).conseq (KI.mono ?_)
        rintro r μ2 ⟨ho, ⟨g1, rfl, hF2⟩ | ⟨g1, -, -⟩⟩
        · refine nx μ2 ho ?_
          unfold ga0 ga1 ga2 gaT gag gaA
          rw [if_neg (by omega), if_neg (by omega), if_neg (by omega), if_neg (by omega), if_neg (by omega), if_neg (by omega), if_neg (by omega), if_neg (by omega), if_neg (by omega), if_neg (by omega)]
          exact hF2
        · exact absurd (by unfold isH; omega) g1
      · rw [w_inj (by omega) (by omega) (by omega) (by omega)] at e
        have hc : CP n ru bx s (pv i 1) (pv i 2) := by
          rcases hb with q | q | q | q | q <;> first | exact q.2 | omega
        rw [v2, v3]
        have fin : ∀ (l : Int) (μ2 : XM), fof wcr μ1 μ2 → ((if l = 0 then -1 else (m : Int)) = if pv i 3 = 1 then (m : Int) else -1) → FS μ2 h n ru ki ls (s + 1) (bput bx s (pv i 1) (pv i 2) 0 (if l = 0 then -1 else m)) m T mg (asav A s bx m T) 0 → G Γ m_FB_perform (d + 7) (0, 0) Q 26 [.ref 32, jk, .ref (506 + 9 * p), .int (w i + w 1)] [] μ2 := by
          intro l μ2 ho hl hF2
          refine nx μ2 ho ?_
          rw [hl] at hF2
          unfold ga0 ga1 ga2 gaT gag gaA
          have n1 : ¬ pv i 0 = 1 := by omega
          have n3 : ¬ pv i 0 = 3 := by omega
          rw [if_pos e, if_pos e, if_neg n3, if_neg n1, if_neg n1, if_neg n3]
          exact hF2
        refine ⟨fun q => ?_, fun q => ?_⟩
        · rw [w_inj (by omega) (by omega) (by omega) (by omega)] at q
          refine (C_putF (l := 1) (d := d + 6) (by omega) (by omega) hF (by omega) (by omega) (by omega) (by omega) (by omega) (by omega)).conseq (KI.mono ?_)
          rintro r μ2 ⟨ho, ⟨g1, rfl, hF2⟩ | ⟨g1, -, -⟩⟩
          · exact fin 1 μ2 ho (by rw [if_neg (by omega), if_pos q]) hF2
          · exact absurd hc g1
        · rw [w_inj (by omega) (by omega) (by omega) (by omega)] at q
          refine (C_putF (l := 0) (d := d + 6) (by omega) (by omega) hF (by omega) (by omega) (by omega) (by omega) (by omega) (by omega)).conseq (KI.mono ?_)
          rintro r μ2 ⟨ho, ⟨g1, rfl, hF2⟩ | ⟨g1, -, -⟩⟩
          · exact fin 0 μ2 ho (by rw [if_pos rfl, if_neg q]) hF2
          · exact absurd hc g1
      · rw [w_inj (by omega) (by omega) (by omega) (by omega)] at e
        refine (C_takeF (d := d + 6) (by omega) (by omega) hF (by omega) (by omega)).conseq (KI.mono ?_)
        rintro r μ2 ⟨ho, ⟨g1, rfl, hF2⟩ | ⟨g1, -, -⟩⟩
        · refine nx μ2 ho ?_
          unfold ga0 ga1 ga2 gaT gag gaA
          rw [if_neg (by omega), if_pos e, if_neg (by omega), if_pos e, if_neg (by omega), if_pos e, if_pos e, if_neg (by omega)]
          exact hF2
        · exact absurd (by omega) g1
      · rw [w_inj (by omega) (by omega) (by omega) (by omega)] at e
        refine (C_labelF (d := d + 6) (by omega) (by omega) hF (by omega) (by omega)).conseq (KI.mono ?_)
        rintro r μ2 ⟨ho, ⟨g1, rfl, hF2⟩ | ⟨g1, -, -⟩⟩
        · refine nx μ2 ho ?_
          unfold ga0 ga1 ga2 gaT gag gaA
          rw [if_neg (by omega), if_neg (by omega), if_neg (by omega), if_neg (by omega), if_pos e, if_neg (by omega), if_neg (by omega), if_neg (by omega), if_neg (by omega)]
          exact hF2
        · exact absurd (by omega) g1
      · rw [w_inj (by omega) (by omega) (by omega) (by omega)] at e
        obtain ⟨v, hv'⟩ : ∃ v : Nat, pv i 1 = v := ⟨(pv i 1).toNat, by omega⟩
        have ev : (pv i 1).toNat = v := by omega
        rw [hv']
        refine (C_passMonthsAsActs (d := d + 6) (z := v) (by omega) (by omega) (by omega) hF).conseq (KV.mono ?_)
        rintro μ2 ⟨ho, hF2⟩
        refine nx μ2 ho ?_
        unfold ga0 ga1 ga2 gaT gag gaA
        rw [if_neg (by omega), if_neg (by omega), if_neg (by omega), if_neg (by omega), if_neg (by omega), if_pos e, if_pos e, if_neg (by omega), if_neg (by omega), if_pos e, ev]
        exact hF2
    · rw [en hb] at hQ
      exact ⟨fun _ => hQ μ1 (fof.rf _ _) hF, fun q => absurd rfl q⟩
theorem C_performF (hd : 8 ≤ d) (hT : T + 16 < 1000000) (hF : FS μ h n ru ki ls s bx m T mg A 0) {k : Nat} (hk : xI μ 32 7 = w k) (hk4 : k ≤ 4) {pz : Nat → Nat} {pv : Nat → Nat → Nat → Int} (hP : ∀ p, p < k → PL μ p (pz p) (pv p)) {x : Int} (x1 : -2147483648 ≤ x) (x2 : x < 2147483648) : Call Γ m_FB_perform d [.ref 32, .int (w x)] μ (KI (fun r μ' => fof wcr μ μ' ∧ (((0 ≤ x ∧ x < k ∧ 0 < n) ∧ r = w (pfm n ru ki ls (pv x.toNat) (pz x.toNat) 0 s bx m T mg A).1 ∧ FP μ' h n ru ki ls (pfm n ru ki ls (pv x.toNat) (pz x.toNat) 0 s bx m T mg A)) ∨ (¬ (0 ≤ x ∧ x < k ∧ 0 < n) ∧ r = w (-1) ∧ FS μ' h n ru ki ls s bx m T mg A 0)))) := by
  obtain ⟨d, rfl⟩ : ∃ e, d = e + 8 := ⟨d - 8, by omega⟩
  have hR := hF.1.1
  refine Call.of ok_FB_perform (Nat.le_of_ble_eq_true rfl) (B_FB_perform_0 hR.ob ?_)
  refine (C_isPlanF (by omega) hR hk hk4 x1 x2).conseq (KI.mono ?_)
  rintro r μ1 ⟨rfl, ⟨g1, g2, rfl⟩ | ⟨g1, rfl⟩⟩
  · refine ⟨fun q => absurd q (by decide), fun _ => ?_⟩
    refine (C_hasHouse (by omega) hR hF.1.2.1).conseq (KI.mono ?_)
    rintro r μ1 ⟨rfl, ⟨hn, rfl⟩ | ⟨hn, rfl⟩⟩
    · have hy := hR.pl g1 (by omega)
      have hp := hP x.toNat (by omega)
      have hz := hp.2.1
      refine ⟨fun q => absurd q (by decide), fun _ => ⟨66, hR.r 32 6 66 rfl, hy.1, _, hy.2, ?_⟩⟩
      exact perform_G (d := d + 1) (pz x.toNat) 0 s bx m T mg A μ1 (by omega) (by omega) hF hn hp (fun μ3 g3 g4 => ⟨_, rfl, g3, Or.inl ⟨⟨g1, g2, hn⟩, rfl, g4⟩⟩)
    · exact ⟨fun _ => ⟨_, rfl, fof.rf _ _, Or.inr ⟨by omega, rfl, hF⟩⟩, fun q => absurd rfl q⟩
  · exact ⟨fun _ => ⟨_, rfl, fof.rf _ _, Or.inr ⟨by omega, rfl, hF⟩⟩, fun q => absurd rfl q⟩
end RN
