/-! THE CLASS'S COUNTS -/
section CN
variable {Γ : XG} {d h n s m T : Nat} {ru : Nat → Int} {ki bx mg : Nat → Nat → Int} {ls : Int → Int → Int → Int → Int → Int → Int} {μ : XM} {Q : Option Value → XM → Prop} {A : AA}
def cnt (n s lt k tn : Nat) (sel : Int) (m : Nat) (po so hab : Int) (cl cf : Nat) (mv : Int) (ml ca : Nat) (z : Int) : Int :=
  if z = 0 then n else if z = 1 then s else if z = 2 then lt else if z = 3 then k else if z = 4 then tn else if z = 5 then sel else if z = 6 then m else if z = 7 then po else if z = 8 then so else if z = 9 then hab else if z = 10 then cl else if z = 11 then cf else if z = 12 then mv else if z = 13 then ml else if z = 14 then ca else -1000000
theorem C_countF (hd : 6 ≤ d) (hT2 : T < 1000000) (hF : FS μ h n ru ki ls s bx m T mg A 0) {tn : Nat} {tb : Nat → Nat} (hTN : TN μ tn tb) {lt k : Nat} {sel hab : Int} (e4 : xI μ 32 4 = w lt) (e5 : xI μ 32 5 = w sel) (e7 : xI μ 32 7 = w k) (e8 : xI μ 32 8 = w hab) {cl cf : Nat} {lo fd : Nat → Nat → Int} (hL : LK μ cl lo) (hD : FD μ cf fd) {z : Int} (z1 : -2147483648 ≤ z) (z2 : z < 2147483648) : Call Γ m_FB_count d [.ref 32, .int (w z)] μ (KI (fun r μ' => fof qcr μ μ' ∧ r = w (cnt n s lt k tn sel m (bsum bx 1 s) (sov ls ki bx m s 0 0) hab cl cf (mvs mg T (min 60 T)) (min 60 T) (aC A) z))) := by
  obtain ⟨d, rfl⟩ : ∃ e, d = e + 1 := ⟨d - 1, by omega⟩
  have hF0 := hF
  obtain ⟨h1, h2, h3, h4, nx, h5⟩ := hF
  have hR := h1.1
  have hP := h1.2.2.2.1
  have hl : alo A T ≤ T := by
    unfold alo
    by_cases e : aC A = 0
    · rw [if_pos e]; exact Nat.le_refl _
    · rw [if_neg e]; exact (h5.2.2.2.2 0 (by omega)).2.2.2.2.1
  refine Call.of ok_FB_count (Nat.le_of_ble_eq_true rfl) (B_FB_count_0 hR.ob (hR.r 32 9 67 rfl) hP.1.ob (hR.r 32 0 33 rfl) (hR.o rfl (by omega)) (hR.r 32 14 490 rfl) (hR.o rfl (by omega)) (hR.r 32 15 493 rfl) (hR.o rfl (by omega)) (hR.r 32 12 280 rfl) (hR.o rfl (by omega)) (hR.r 32 11 77 rfl) (hR.o rfl (by omega)) ?_)
  refine ⟨fun e => ?_, fun e => ?_, fun e => ?_, fun e => ?_, fun e => ?_, fun e => ?_, fun e => ?_, fun e => ?_, fun e => ?_, fun e => ?_, fun e => ?_, fun e => ?_, fun e => ?_, fun e => ?_, fun e => ?_, fun e => ?_⟩
  · rw [w_lt (by omega) (by omega) (by omega) (by omega), w_lt (by omega) (by omega) (by omega) (by omega)] at e
    refine ⟨_, rfl, fof.rf _ _, ?_⟩
    unfold cnt
    rw [if_neg (by omega), if_neg (by omega), if_neg (by omega), if_neg (by omega), if_neg (by omega), if_neg (by omega), if_neg (by omega), if_neg (by omega), if_neg (by omega), if_neg (by omega), if_neg (by omega), if_neg (by omega), if_neg (by omega), if_neg (by omega), if_neg (by omega)]
  all_goals rw [w_inj (by omega) (by omega) (by omega) (by omega)] at e
  all_goals subst e
  · refine (C_hasHouse (by omega) hR h1.2.1).conseq (KI.mono ?_)
    rintro r μ1 ⟨rfl, ⟨hn, rfl⟩ | ⟨hn, rfl⟩⟩
    · exact ⟨fun q => absurd q (by decide), fun _ => ⟨h, h1.2.1.2.1, h1.2.1.1.ob, _, rfl, fof.rf _ _, h1.2.1.2.2.2.1⟩⟩
    · refine ⟨fun _ => ⟨_, rfl, fof.rf _ _, ?_⟩, fun q => absurd rfl q⟩
      subst hn
      rfl
  · exact ⟨_, rfl, fof.rf _ _, hP.2.2.2.1⟩
  · exact ⟨_, rfl, fof.rf _ _, e4⟩
  · exact ⟨_, rfl, fof.rf _ _, e7⟩
  · exact ⟨_, rfl, fof.rf _ _, hTN.2.2.1⟩
  · exact ⟨_, rfl, fof.rf _ _, e5⟩
  · exact ⟨_, rfl, fof.rf _ _, hP.2.2.2.2.1⟩
  · refine (C_portionsInAll (by omega) hP).conseq (KI.mono ?_)
    rintro r μ1 ⟨rfl, rfl⟩
    exact ⟨_, rfl, fof.rf _ _, rfl⟩
  · refine (C_valueOfAll (older := 0) (later := 0) (by omega) h1 (by omega) (by omega) (by omega) (by omega)).conseq (KI.mono ?_)
    rintro r μ1 ⟨ho, rfl⟩
    exact ⟨_, rfl, ho.wide scr_q, rfl⟩
  · exact ⟨_, rfl, fof.rf _ _, e8⟩
  · exact ⟨_, rfl, fof.rf _ _, hL.2.1⟩
  · exact ⟨_, rfl, fof.rf _ _, hD.2.1⟩
  · refine (C_valueInAll (by omega) hR h3 hT2 hl h4).conseq (KI.mono ?_)
    rintro r μ1 ⟨rfl, rfl⟩
    exact ⟨_, rfl, fof.rf _ _, rfl⟩
  · refine (C_meLength (by omega) hR h3 hT2).conseq (KI.mono ?_)
    rintro r μ1 ⟨rfl, rfl⟩
    exact ⟨_, rfl, fof.rf _ _, rfl⟩
  · exact ⟨_, rfl, fof.rf _ _, h5.2.2.1⟩
end CN
