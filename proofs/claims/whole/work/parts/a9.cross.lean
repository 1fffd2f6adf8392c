/-! WHAT THE OTHER SIDE LEAVES: the class's cells lie below 547, the reference's from there on -/
def cls (μ μ' : XM) : Prop := (∀ c j, c < 547 → xI μ' c j = xI μ c j ∧ xR μ' c j = xR μ c j) ∧ xN μ ≤ xN μ'
def mdl (μ μ' : XM) : Prop := (∀ c j, (c < 32 ∨ (547 ≤ c ∧ c < 573)) → xI μ' c j = xI μ c j ∧ xL μ' c j = xL μ c j ∧ xR μ' c j = xR μ c j) ∧ xN μ ≤ xN μ'
abbrev zcl (μ μ' : XM) : Prop := cls μ μ'
abbrev zml (μ μ' : XM) : Prop := mdl μ μ'
theorem cls.trans {μ μ1 μ2 : XM} (h1 : cls μ μ1) (h2 : cls μ1 μ2) : cls μ μ2 := ⟨fun c j hc => ⟨(h2.1 c j hc).1.trans (h1.1 c j hc).1, (h2.1 c j hc).2.trans (h1.1 c j hc).2⟩, Nat.le_trans h1.2 h2.2⟩
theorem fr.cls {F : Nat → Nat → Prop} {μ μ' : XM} (h : fr F μ μ') (hp : ∀ c j, F c j → 547 ≤ c) : zcl μ μ' := ⟨fun c j hc => by
  have := h.1 c j (fun z => by have := hp c j z; omega)
  exact ⟨this.1, this.2.2⟩, Nat.le_of_eq h.2.symm⟩
theorem fof.mdl {P : Nat → Prop} {μ μ' : XM} (h : fof P μ μ') (hp : ∀ c, P c → 32 ≤ c ∧ c < 547) : zml μ μ' := ⟨fun c j hc => ⟨h.1 c (fun z => by have := hp c z; omega) j, by rw [h.2.1], by rw [h.2.2.1]⟩, Nat.le_of_eq h.2.2.2.symm⟩
theorem onF.mdl {k : Nat} {μ μ' : XM} (h : onF k μ μ') : zml μ μ' := ⟨fun c j hc => ⟨h.1 c j (by omega), by rw [h.2.1], by rw [h.2.2.1]⟩, Nat.le_of_eq h.2.2.2.symm⟩
theorem mdl.rf (μ : XM) : mdl μ μ := ⟨fun _ _ _ => ⟨rfl, rfl, rfl⟩, Nat.le_refl _⟩
theorem cls.rf (μ : XM) : cls μ μ := ⟨fun _ _ _ => ⟨rfl, rfl⟩, Nat.le_refl _⟩
section CX
variable {μ μ' : XM} (ho : cls μ μ')
theorem PBx {a : Nat} (h : PB μ a) (ha : a + 4 < 547) (ho : cls μ μ') : PB μ' a := by
  obtain ⟨a1, a2, a3, a4, a5, a6⟩ := h
  exact ⟨a1, Nat.le_trans a2 ho.2, by rw [(ho.1 a 0 (by omega)).2]; exact a3, by rw [(ho.1 a 1 (by omega)).2]; exact a4, by rw [(ho.1 a 2 (by omega)).2]; exact a5, by rw [(ho.1 a 3 (by omega)).2]; exact a6⟩
theorem LBx {a : Nat} (h : LB μ a) (ha : a + 3 < 547) (ho : cls μ μ') : LB μ' a := by
  obtain ⟨a1, a2, a3, a4, a5⟩ := h
  exact ⟨a1, Nat.le_trans a2 ho.2, by rw [(ho.1 a 0 (by omega)).2]; exact a3, by rw [(ho.1 a 1 (by omega)).2]; exact a4, by rw [(ho.1 a 2 (by omega)).2]; exact a5⟩
theorem rF_lt {a k v : Nat} (e : rF a k = some v) : a < 547 := by
  unfold rF at e
  repeat' split at e
  all_goals first | omega | cases e
theorem RFx (h : RF μ) (ho : cls μ μ') : RF μ' := by
  obtain ⟨a1, a2, a3, a4, a5, a6, a7, a8⟩ := h
  refine ⟨Nat.le_trans a1 ho.2, fun a k v e => by rw [(ho.1 a k (rF_lt e)).2]; exact a2 a k v e, PBx a3 (by omega) ho, PBx a4 (by omega) ho, PBx a5 (by omega) ho, fun i hi => ⟨by rw [(ho.1 78 i (by omega)).2]; exact (a6 i hi).1, PBx (a6 i hi).2 (by omega) ho⟩, fun i hi => ⟨by rw [(ho.1 281 i (by omega)).2]; exact (a7 i hi).1, by rw [(ho.1 389 i (by omega)).2]; exact (a7 i hi).2⟩, fun i hi => ?_⟩
  obtain ⟨b1, b2, b3, b4, b5, b6, b7⟩ := a8 i hi
  exact ⟨by rw [(ho.1 65 i (by omega)).2]; exact b1, LBx b2 (by omega) ho, by rw [(ho.1 66 i (by omega)).2]; exact b3, by rw [(ho.1 _ 0 (by omega)).2]; exact b4, by rw [(ho.1 _ 1 (by omega)).2]; exact b5, by rw [(ho.1 _ 2 (by omega)).2]; exact b6, by rw [(ho.1 _ 3 (by omega)).2]; exact b7⟩
theorem HHx {h : Nat} (hh : HH μ h) (ho : cls μ μ') : HH μ' h := by
  obtain ⟨a1, a2, a3, a4, a5, a6, a7, a8⟩ := hh
  have a0 := a1
  unfold HS at a0
  exact ⟨a1, Nat.le_trans a2 ho.2, by rw [(ho.1 h 0 (by omega)).2]; exact a3, by rw [(ho.1 h 1 (by omega)).2]; exact a4, by rw [(ho.1 h 2 (by omega)).2]; exact a5, by rw [(ho.1 h 3 (by omega)).2]; exact a6, PBx a7 (by omega) ho, fun k hk => by rw [(ho.1 (h + 2) k (by omega)).2]; exact a8 k hk⟩
theorem HOx {h n : Nat} {ru : Nat → Int} {ki : Nat → Nat → Int} (hh : HO μ h n ru ki) (ho : cls μ μ') : HO μ' h n ru ki := by
  obtain ⟨a1, a2, a3, a4, a5, a6, a7⟩ := hh
  have a0 := a1.1
  unfold HS at a0
  exact ⟨HHx a1 ho, by rw [(ho.1 32 1 (by omega)).2]; exact a2, a3, by rw [(ho.1 h 4 (by omega)).1]; exact a4, a5, fun j hj => by rw [(ho.1 (h + 1) j (by omega)).1]; exact a6 j hj, fun k hk => ⟨fun j hj => by rw [(ho.1 (h + 3 + k) j (by omega)).1]; exact (a7 k hk).1 j hj, (a7 k hk).2⟩⟩
theorem PFx {a s m : Nat} {bx : Nat → Nat → Int} (h : PF μ a s bx m) (ha : a + 4 < 547) (ho : cls μ μ') : PF μ' a s bx m := by
  obtain ⟨a1, a2, a3, a4, a5, a6⟩ := h
  refine ⟨PBx a1 ha ho, a2, a3, by rw [(ho.1 a 4 (by omega)).1]; exact a4, by rw [(ho.1 a 5 (by omega)).1]; exact a5, fun i hi => ?_⟩
  rw [(ho.1 (a + 1) i (by omega)).1, (ho.1 (a + 2) i (by omega)).1, (ho.1 (a + 3) i (by omega)).1, (ho.1 (a + 4) i (by omega)).1]
  exact a6 i hi
theorem LFx {L sz : Nat} {cd : Nat → Int} (h : LF μ L sz cd) (ha : L + 3 < 547) (ho : cls μ μ') : LF μ' L sz cd := by
  obtain ⟨a1, a2, a3, a4⟩ := h
  exact ⟨LBx a1 ha ho, a2, by rw [(ho.1 L 3 (by omega)).1]; exact a3, fun i hi => by rw [(ho.1 (L + 1) i (by omega)).1]; exact a4 i hi⟩
theorem LWx {lt : Nat} {lz : Nat → Nat} {lc : Nat → Nat → Int} {sel : Int} (h : LW μ lt lz lc sel) (ho : cls μ μ') : LW μ' lt lz lc sel := by
  obtain ⟨a1, a2, a3, a4, a5, a6⟩ := h
  exact ⟨a1, by rw [(ho.1 32 4 (by omega)).1]; exact a2, by rw [(ho.1 32 5 (by omega)).1]; exact a3, a4, a5, fun i hi => LFx (a6 i hi) (by omega) ho⟩
theorem MRx {b lo T : Nat} {mg : Nat → Nat → Int} (h : MR μ b lo T mg) (hb : b ≤ 400) (ho : cls μ μ') : MR μ' b lo T mg := fun j j1 j2 q hq => by
  have : j % 100 < 100 := Nat.mod_lt _ (by omega)
  rw [(ho.1 (b + j % 100) q (by omega)).1]
  exact h j j1 j2 q hq
theorem AVx {n c nx T e : Nat} {as : Nat → Nat} {ab : Nat → Nat → Nat → Int} {am aT : Nat → Nat} (h : AV μ n c nx T e as ab am aT) (ho : cls μ μ') : AV μ' n c nx T e as ab am aT := by
  obtain ⟨a1, a2, a3, a4, a5⟩ := h
  refine ⟨a1, a2, by rw [(ho.1 77 3 (by omega)).1]; exact a3, by rw [(ho.1 77 2 (by omega)).1]; exact a4, fun j hj => ?_⟩
  obtain ⟨b1, b2, b3, b4, b5⟩ := a5 j hj
  have hm : (nx + 40 - c + j) % 40 < 40 := Nat.mod_lt _ (by omega)
  exact ⟨PFx b1 (by omega) ho, b2, b3, by rw [(ho.1 79 _ (by omega)).1]; exact b4, b5⟩
theorem IMx {n : Nat} {k : Bool} {s : Nat} {bx : Nat → Nat → Int} {m T : Nat} {mg : Nat → Nat → Int} (h : IM μ n k s bx m T mg) (ho : cls μ μ') : IM μ' n k s bx m T mg := ⟨by rw [(ho.1 382 2 (by omega)).1]; exact h.1, fun e => by
  obtain ⟨a1, a2, a3, a4, a5, a6⟩ := h.2 e
  exact ⟨PFx a1 (by omega) ho, a2, a3, by rw [(ho.1 388 1 (by omega)).1]; exact a4, MRx a5 (by omega) ho, a6⟩⟩
theorem PLx {p z : Nat} {pv : Nat → Nat → Int} (h : PL μ p z pv) (ho : cls μ μ') : PL μ' p z pv := by
  obtain ⟨a1, a2, a3, a4⟩ := h
  refine ⟨a1, a2, by rw [(ho.1 _ 4 (by omega)).1]; exact a3, fun i hi => ?_⟩
  rw [(ho.1 (507 + 9 * p) i (by omega)).1, (ho.1 (508 + 9 * p) i (by omega)).1, (ho.1 (509 + 9 * p) i (by omega)).1, (ho.1 (510 + 9 * p) i (by omega)).1]
  exact a4 i hi
theorem TNx {n : Nat} {tb : Nat → Nat} (h : TN μ n tb) (ho : cls μ μ') : TN μ' n tb := by
  obtain ⟨a1, a2, a3, a4, a5⟩ := h
  exact ⟨by rw [(ho.1 33 0 (by omega)).2]; exact a1, Nat.le_trans a2 ho.2, by rw [(ho.1 33 1 (by omega)).1]; exact a3, a4, fun j hj => by rw [(ho.1 34 j (by omega)).1]; exact a5 j hj⟩
theorem LKx {c : Nat} {lo : Nat → Nat → Int} (h : LK μ c lo) (ho : cls μ μ') : LK μ' c lo := ⟨h.1, by rw [(ho.1 490 2 (by omega)).1]; exact h.2.1, fun i hi => by rw [(ho.1 491 i (by omega)).1, (ho.1 492 i (by omega)).1]; exact h.2.2 i hi⟩
theorem FDx {c : Nat} {fd : Nat → Nat → Int} (h : FD μ c fd) (ho : cls μ μ') : FD μ' c fd := ⟨h.1, by rw [(ho.1 493 5 (by omega)).1]; exact h.2.1, fun i hi => by rw [(ho.1 494 i (by omega)).1, (ho.1 495 i (by omega)).1, (ho.1 496 i (by omega)).1]; exact h.2.2 i hi⟩
theorem STx (h : ST μ) (ho : cls μ μ') : ST μ' := fun a j v e => by
  have ha : a < 14 := by
    refine Decidable.byContradiction fun q => ?_
    unfold sT at e
    split at e <;> first | omega | simp at e
  rw [(ho.1 a j (by omega)).1]
  exact h a j v e
theorem FWx {ls : Int → Int → Int → Int → Int → Int → Int} (h : FW μ ls) (ho : cls μ μ') : FW μ' ls := by
  obtain ⟨sel, nl, e1, e2, e3, e4, e5, e6, e7, e8⟩ := h
  refine ⟨sel, nl, by rw [(ho.1 32 5 (by omega)).1]; exact e1, by rw [(ho.1 32 4 (by omega)).1]; exact e2, e3, e4, e5, e6, e7, fun hs => ?_⟩
  obtain ⟨sz, cd, q1, q2⟩ := e8 hs
  exact ⟨sz, cd, LFx q1 (by omega) ho, q2⟩
theorem FSx {h n s m T e : Nat} {ru : Nat → Int} {ki bx mg : Nat → Nat → Int} {ls : Int → Int → Int → Int → Int → Int → Int} {A : AA} (hF : FS μ h n ru ki ls s bx m T mg A e) (ho : cls μ μ') : FS μ' h n ru ki ls s bx m T mg A e := by
  obtain ⟨⟨f1, f2, f3, f4, f5⟩, h2, h3, h4, nx, h5⟩ := hF
  exact ⟨⟨RFx f1 ho, HOx f2 ho, FWx f3 ho, PFx f4 (by omega) ho, f5⟩, h2, by rw [(ho.1 280 1 (by omega)).1]; exact h3, MRx h4 (by omega) ho, nx, AVx h5 ho⟩
end CX
section MX
variable {μ μ' : XM}
theorem RMx (h : RM μ) (ho : mdl μ μ') : RM μ' := ⟨Nat.le_trans h.1 ho.2, fun k v e => by rw [(ho.1 547 k (by omega)).2.2]; exact h.2 k v e⟩
theorem HMx {n : Nat} {ru : Nat → Int} {ki : Nat → Nat → Int} (h : HM μ n ru ki) (ho : mdl μ μ') : HM μ' n ru ki := ⟨RMx h.1 ho, h.2.1, by rw [(ho.1 547 25 (by omega)).1]; exact h.2.2.1, h.2.2.2.1, fun j hj => by rw [(ho.1 552 j (by omega)).1]; exact h.2.2.2.2.1 j hj, fun k hk => ⟨fun j hj => by rw [(ho.1 554 _ (by omega)).1]; exact (h.2.2.2.2.2 k hk).1 j hj, (h.2.2.2.2.2 k hk).2⟩⟩
theorem NRx {a o s m T : Nat} {bx mg : Nat → Nat → Int} (h : NR μ a o s bx m T mg) (ha : 547 ≤ a ∧ a < 573) (ho : mdl μ μ') : NR μ' a o s bx m T mg := by
  have e : ∀ j, xI μ' a j = xI μ a j := fun j => (ho.1 a j (by omega)).1
  unfold NR
  simp only [e]
  exact h
theorem TXx {a o n : Nat} {tb : Nat → Nat} (h : TX μ a o n tb) (ha : 547 ≤ a ∧ a < 573) (ho : mdl μ μ') : TX μ' a o n tb := ⟨h.1, h.2.1, fun j hj => by rw [(ho.1 a _ (by omega)).1]; exact h.2.2 j hj⟩
theorem SSx (h : SS μ) (ho : mdl μ μ') : SS μ' := fun j hj i hi => by
  rw [(ho.1 (20 + j) i (by omega)).1]
  exact h j hj i hi
theorem MWx {W : WL} (h : MW μ W) (ho : mdl μ μ') : MW μ' W := by
  obtain ⟨a1, a2, a3, a4, a5, a6, a7⟩ := h
  refine ⟨SSx a1 ho, a2, by rw [(ho.1 547 32 (by omega)).1]; exact a3, a4, a5, fun i hi => ⟨by rw [(ho.1 550 i (by omega)).1]; exact (a6 i hi).1, TXx (a6 i hi).2.1 (by omega) ho, (a6 i hi).2.2⟩, fun s hs => ?_, ?_⟩
  · rw [(ho.1 561 s (by omega)).2.1, (ho.1 562 s (by omega)).1]
    exact a7.1 s hs
  · obtain ⟨e, q1, q2⟩ := a7.2
    exact ⟨e, q1, fun j hj => by rw [(ho.1 551 _ (by omega)).1]; exact q2 j hj⟩
theorem AVMx {n T : Nat} {A : AA} {mg : Nat → Nat → Int} (h : AVM μ n A T mg) (ho : mdl μ μ') : AVM μ' n A T mg := ⟨h.1, by rw [(ho.1 547 37 (by omega)).1]; exact h.2.1, h.2.2.1, fun j hj => by
  obtain ⟨b1, b2⟩ := h.2.2.2 j hj
  exact ⟨NRx b1 (by omega) ho, b2⟩⟩
theorem LKMx {c : Nat} {lo : Nat → Nat → Int} (h : LKM μ c lo) (ho : mdl μ μ') : LKM μ' c lo := ⟨h.1, by rw [(ho.1 547 43 (by omega)).1]; exact h.2.1, fun i hi => by rw [(ho.1 564 i (by omega)).1, (ho.1 565 i (by omega)).1]; exact h.2.2 i hi⟩
theorem FDMx {c : Nat} {fd : Nat → Nat → Int} (h : FDM μ c fd) (ho : mdl μ μ') : FDM μ' c fd := ⟨h.1, by rw [(ho.1 547 50 (by omega)).1]; exact h.2.1, fun i hi => by rw [(ho.1 566 i (by omega)).1, (ho.1 567 i (by omega)).1, (ho.1 571 i (by omega)).1]; exact h.2.2 i hi⟩
theorem IMMx {n : Nat} {k : Bool} {s : Nat} {bx : Nat → Nat → Int} {m T : Nat} {mg : Nat → Nat → Int} (h : IMM μ n k s bx m T mg) (ho : mdl μ μ') : IMM μ' n k s bx m T mg := ⟨by rw [(ho.1 547 55 (by omega)).1]; exact h.1, fun e => ⟨NRx (h.2 e).1 (by omega) ho, (h.2 e).2⟩⟩
theorem PLMx {k : Nat} {pz : Nat → Nat} {pv : Nat → Nat → Nat → Int} (h : PLM μ k pz pv) (ho : mdl μ μ') : PLM μ' k pz pv := ⟨h.1, by rw [(ho.1 547 28 (by omega)).1]; exact h.2.1, fun p hp => ⟨(h.2.2 p hp).1, by rw [(ho.1 558 p (by omega)).1]; exact (h.2.2 p hp).2.1, fun i hi => by
  obtain ⟨b1, b2, b3⟩ := (h.2.2 p hp).2.2 i hi
  exact ⟨b1, fun q hq => by rw [(ho.1 557 _ (by omega)).1]; exact b2 q hq, b3⟩⟩⟩
theorem TMx {n : Nat} {tb : Nat → Nat} (h : TM μ n tb) (ho : mdl μ μ') : TM μ' n tb := ⟨TXx h.1 (by omega) ho, by rw [(ho.1 547 6 (by omega)).1]; exact h.2⟩
theorem MQsx {n s m T : Nat} {ru : Nat → Int} {ki bx mg : Nat → Nat → Int} {W : WL} {ls : Int → Int → Int → Int → Int → Int → Int} (h : MQs μ n ru ki s bx m T mg W ls) (ho : mdl μ μ') : MQs μ' n ru ki s bx m T mg W ls := ⟨HMx h.1 ho, NRx h.2.1 (by omega) ho, h.2.2.1, h.2.2.2.1, MWx h.2.2.2.2.1 ho, h.2.2.2.2.2⟩
theorem MAx {n s m T : Nat} {ru : Nat → Int} {ki bx mg : Nat → Nat → Int} {W : WL} {ls : Int → Int → Int → Int → Int → Int → Int} {A : AA} (h : MA μ n ru ki s bx m T mg W ls A) (ho : mdl μ μ') : MA μ' n ru ki s bx m T mg W ls A := ⟨MQsx h.1 ho, AVMx h.2 ho⟩
end MX
