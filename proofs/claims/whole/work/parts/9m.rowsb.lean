/-! EACH ROW'S NEXT IS THE NEXT OF THE LIST -/
def blk (n r : Nat) (c : Nat → Nat) (k : Nat) : List (List Nat) := if c k = 0 then [] else (prm n r (dck c k)).map (List.cons k)
def asc (b : List Nat) : Prop := b.Pairwise (fun x y => x ≤ y)
theorem prm_s {n r : Nat} {c : Nat → Nat} : prm n (r + 1) c = (List.range' 0 n).flatMap (blk n r c) := by
  rw [prm]
  rfl
theorem blk_rest {n r : Nat} {c : Nat → Nat} (ht : tot c n = r + 1) (ih : ∀ c, tot c n = r → prm n r c ≠ [] ∧ chn (prm n r c) ∧ ∀ b, (prm n r c).head? = some b → asc b) : ∀ (f k : Nat), k + f = n → chn ((List.range' k f).flatMap (blk n r c)) ∧ ((List.range' k f).flatMap (blk n r c) = [] → ∀ j, k ≤ j → j < n → c j = 0) ∧ ∀ b, ((List.range' k f).flatMap (blk n r c)).head? = some b → ∃ k0 b', b = k0 :: b' ∧ k ≤ k0 ∧ k0 < n ∧ 0 < c k0 ∧ (∀ j, k ≤ j → j < k0 → c j = 0) ∧ asc b' ∧ PC n (dck c k0) b' := by
  intro f
  induction f with
  | zero =>
    intro k hk
    exact ⟨trivial, fun _ j h1 h2 => absurd h1 (by omega), fun b hb => nomatch hb⟩
  | succ f ihf =>
    intro k hk
    obtain ⟨h1, h2, h3⟩ := ihf (k + 1) (by omega)
    rw [List.range'_succ, List.flatMap_cons]
    generalize (List.range' (k + 1) f).flatMap (blk n r c) = X at *
    by_cases e : c k = 0
    · have eb : blk n r c k = [] := by unfold blk; rw [if_pos e]
      rw [eb, List.nil_append]
      refine ⟨h1, fun q j hj hn => ?_, fun b hb => ?_⟩
      · by_cases ej : j = k
        · subst ej; exact e
        · exact h2 q j (by omega) hn
      · obtain ⟨k0, b', g1, g2, g3, g4, g5, g6, g7⟩ := h3 b hb
        exact ⟨k0, b', g1, by omega, g3, g4, fun j hj hj2 => by
          by_cases ej : j = k
          · subst ej; exact e
          · exact g5 j (by omega) hj2, g6, g7⟩
    · have eb : blk n r c k = (prm n r (dck c k)).map (List.cons k) := by unfold blk; rw [if_neg e]
      have hd := tot_dck (c := c) (k := k) (by omega) n (by omega)
      obtain ⟨i1, i2, i3⟩ := ih (dck c k) (by omega)
      have im := prm_mem (n := n) r (dck c k) (by omega)
      rw [eb]
      refine ⟨chn_map h1 _ i2 (fun a ha hn => ?_), fun q => ?_, fun b hb => ?_⟩
      · have hdesc := nxl_no a hn
        obtain ⟨hpc, -⟩ := im a ha
        have mem : ∀ y, y ∈ a → y < n ∧ 0 < dck c k y := fun y hy => by
          have h5 := List.count_pos_iff.mpr hy
          rw [hpc y] at h5
          by_cases q : y < n
          · rw [if_pos q] at h5; exact ⟨q, h5⟩
          · rw [if_neg q] at h5; exact absurd h5 (by omega)
        have dne : ∀ y, k < y → dck c k y = c y := fun y hy => by unfold dck; rw [if_neg (by omega)]
        cases X with
        | nil =>
          refine nxl_3 hn (pck_no a (fun y hy hx => ?_))
          have := mem y hy
          have h0 := h2 rfl y (by omega) this.1
          rw [dne y hx] at this
          omega
        | cons b X =>
          obtain ⟨k0, b', g1, g2, g3, g4, g5, g6, g7⟩ := h3 b rfl
          have hk0 : k0 ∈ a := by
            refine List.count_pos_iff.mp ?_
            rw [hpc k0, if_pos g3, dne k0 (by omega)]
            exact g4
          obtain ⟨z, t', p1, p2, p3, p4, p5, p6⟩ := pck_yes (x := k) a hdesc ⟨k0, hk0, by omega⟩
          have hz : z = k0 := by
            have q1 := p4 k0 hk0 (by omega)
            have q2 := mem z p3
            rw [dne z p2] at q2
            by_cases q : z = k0
            · exact q
            · have := g5 z (by omega) (by omega)
              omega
          subst hz
          subst g1
          show nxl (k :: a) = some (z :: b')
          rw [nxl_2 hn p1]
          have : t'.reverse = b' := by
            refine asc_uq (List.pairwise_reverse.mpr p5) g6 (fun v => ?_)
            have q := List.perm_iff_count.mp p6 v
            have c1 := hpc v
            have c2 := g7 v
            rw [List.count_cons, List.count_cons] at q
            rw [List.count_reverse, c2]
            unfold dck at c1 ⊢
            by_cases vz : z = v
            · subst vz
              have e1 : (z == z) = true := by simp
              have e2 : ¬ (k == z) = true := by simp; omega
              rw [if_pos e1, if_neg e2, c1, if_pos g3, if_neg (by omega)] at q
              rw [if_pos g3, if_pos rfl]
              omega
            · have e1 : ¬ (z == v) = true := by simp; exact vz
              rw [if_neg e1] at q
              by_cases vk : k = v
              · subst vk
                have e2 : (k == k) = true := by simp
                rw [if_pos e2, c1, if_pos (by omega), if_pos rfl] at q
                rw [if_pos (by omega), if_neg (by omega)]
                omega
              · have e2 : ¬ (k == v) = true := by simp; exact vk
                rw [if_neg e2, c1, if_neg (show ¬ v = k by omega)] at q
                rw [if_neg (show ¬ v = z by omega)]
                omega
          rw [this]
      · exfalso
        have q2 := (List.append_eq_nil_iff.mp q).1
        exact i1 (List.map_eq_nil_iff.mp q2)
      · cases e2 : prm n r (dck c k) with
        | nil => exact absurd e2 i1
        | cons a L =>
          rw [e2] at hb
          have hb' : k :: a = b := Option.some.inj hb
          refine ⟨k, a, hb'.symm, Nat.le_refl _, by omega, by omega, fun j hj hj2 => absurd hj (by omega), i3 a (by rw [e2]; rfl), (im a (by rw [e2]; exact List.mem_cons_self)).1⟩
theorem prm_chn (n : Nat) : ∀ (r : Nat) (c : Nat → Nat), tot c n = r → prm n r c ≠ [] ∧ chn (prm n r c) ∧ ∀ b, (prm n r c).head? = some b → asc b := by
  intro r
  induction r with
  | zero =>
    intro c ht
    unfold prm
    refine ⟨List.cons_ne_nil _ _, ⟨rfl, trivial⟩, fun b hb => ?_⟩
    have : ([] : List Nat) = b := Option.some.inj hb
    subst this
    exact List.Pairwise.nil
  | succ r ih =>
    intro c ht
    obtain ⟨h1, h2, h3⟩ := blk_rest (c := c) ht ih n 0 (by omega)
    rw [prm_s]
    refine ⟨fun q => ?_, h1, fun b hb => ?_⟩
    · have h0 := h2 q
      have : tot c n = tot (fun _ => 0) n := tot_same n (fun j hj => h0 j (by omega) hj)
      have z : ∀ m, tot (fun _ => 0) m = 0 := fun m => by
        induction m with
        | zero => rfl
        | succ m ihm => rw [tot, ihm]
      rw [z] at this
      omega
    · obtain ⟨k0, b', g1, g2, g3, g4, g5, g6, g7⟩ := h3 b hb
      subst g1
      unfold asc
      rw [List.pairwise_cons]
      refine ⟨fun y hy => ?_, g6⟩
      have h5 := List.count_pos_iff.mpr hy
      rw [g7 y] at h5
      by_cases q : k0 ≤ y
      · exact q
      · exfalso
        by_cases q2 : y < n
        · rw [if_pos q2] at h5
          unfold dck at h5
          rw [if_neg (by omega), g5 y (by omega) (by omega)] at h5
          omega
        · rw [if_neg q2] at h5
          omega
