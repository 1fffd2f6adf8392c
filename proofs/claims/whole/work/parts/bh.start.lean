/-! WHAT HOLDS AT THE START -/
theorem moR_ne {R : RR} {c j : Nat} (h : ¬ c = 547) : moR R c j = R c j := by
  simp (disch := omega) only [moR, up2_out]
theorem moR_at {R : RR} : ∀ k v, rM k = some v → moR R 547 k = some v := by
  intro k v h
  unfold rM at h
  split at h <;> first | (cases h; simp (disch := omega) only [moR, up2_nk, up2_in]) | cases h
section FBR
variable {R : RR} {c j i : Nat}
theorem fb_rF : ∀ a k v, rF a k = some v → fbR R a k = some v := by
  intro a k v h
  unfold rF at h
  split at h
  · subst a
    split at h <;> first | (cases h; simp (disch := omega) only [fbR, up2_out, up2_nk, up2_in, hR_ne, pR_ne, mgR_ne, acR_ne]) | cases h
  split at h
  · subst a
    split at h <;> first | (cases h; simp (disch := omega) only [fbR, up2_out, up2_nk, up2_in, hR_ne, pR_ne, mgR_ne, acR_ne]) | cases h
  split at h
  · subst a
    split at h <;> first | (cases h; simp (disch := omega) only [fbR, up2_out, up2_nk, up2_in, hR_ne, pR_ne, mgR_ne, acR_ne]) | cases h
  split at h
  · subst a
    split at h <;> first | (cases h; simp (disch := omega) only [fbR, up2_out, up2_nk, up2_in, hR_ne, pR_ne, mgR_ne, mgR_0, acR_ne]) | cases h
  split at h
  · subst a
    split at h <;> first | (cases h; simp (disch := omega) only [fbR, up2_out, up2_nk, up2_in, hR_ne, pR_ne, mgR_ne, mgR_0, acR_ne]) | cases h
  split at h
  · subst a
    split at h <;> first | (cases h; simp (disch := omega) only [fbR, up2_out, up2_nk, up2_in, hR_ne, pR_ne, mgR_ne, acR_ne]) | cases h
  split at h
  · subst a
    split at h <;> first | (cases h; simp (disch := omega) only [fbR, up2_out, up2_nk, up2_in, hR_ne, pR_ne, mgR_ne, acR_ne]) | cases h
  split at h
  · subst a
    split at h <;> first | (cases h; simp (disch := omega) only [fbR, up2_out, up2_nk, up2_in, hR_ne, pR_ne, mgR_ne, acR_ne]) | cases h
  cases h
theorem fb_67 : fbR R 67 0 = some 68 ∧ fbR R 67 1 = some 69 ∧ fbR R 67 2 = some 70 ∧ fbR R 67 3 = some 71 := by
  simp (disch := omega) only [fbR, up2_out, up2_nk, up2_in, hR_ne, pR_ne, pR_0, pR_1, pR_2, pR_3, mgR_ne, acR_ne]
  exact ⟨trivial, trivial, trivial, trivial⟩
theorem fb_72 : fbR R 72 0 = some 73 ∧ fbR R 72 1 = some 74 ∧ fbR R 72 2 = some 75 ∧ fbR R 72 3 = some 76 := by
  simp (disch := omega) only [fbR, up2_out, up2_nk, up2_in, hR_ne, pR_ne, pR_0, pR_1, pR_2, pR_3, mgR_ne, acR_ne]
  exact ⟨trivial, trivial, trivial, trivial⟩
theorem fb_383 : fbR R 383 0 = some 384 ∧ fbR R 383 1 = some 385 ∧ fbR R 383 2 = some 386 ∧ fbR R 383 3 = some 387 := by
  simp (disch := omega) only [fbR, up2_out, up2_nk, up2_in, hR_ne, pR_ne, pR_0, pR_1, pR_2, pR_3, mgR_ne, acR_ne]
  exact ⟨trivial, trivial, trivial, trivial⟩
theorem fb_78 (h : i < 40) : fbR R 78 i = some (80 + 5 * i) := by
  simp (disch := omega) only [fbR, up2_out, pR_ne, mgR_ne, acR_78]
theorem fb_80 (h : i < 40) : fbR R (80 + 5 * i) 0 = some (80 + 5 * i + 1) ∧ fbR R (80 + 5 * i) 1 = some (80 + 5 * i + 2) ∧ fbR R (80 + 5 * i) 2 = some (80 + 5 * i + 3) ∧ fbR R (80 + 5 * i) 3 = some (80 + 5 * i + 4) := by
  simp (disch := omega) only [fbR, up2_out, pR_ne, mgR_ne, acR_p, pR_0, pR_1, pR_2, pR_3]
  exact ⟨trivial, trivial, trivial, trivial⟩
theorem fb_281 (h : i < 100) : fbR R 281 i = some (282 + i) := by
  simp (disch := omega) only [fbR, up2_out, pR_ne, mgR_ne]
  exact mgR_i h
theorem fb_389 (h : i < 100) : fbR R 389 i = some (390 + i) := by
  simp (disch := omega) only [fbR, up2_out, pR_ne]
  exact mgR_i h
theorem fb_35 : fbR R 35 0 = some 36 ∧ fbR R 35 1 = some 37 ∧ fbR R 35 2 = some 44 ∧ fbR R 35 3 = some 45 ∧ (fbR R 45 0 = some 46 ∧ fbR R 45 1 = some 47 ∧ fbR R 45 2 = some 48 ∧ fbR R 45 3 = some 49) ∧ ∀ k, k < 6 → fbR R 37 k = some (38 + k) := by
  simp (disch := omega) only [fbR, up2_out, hR_ne, pR_ne, mgR_ne, acR_ne]
  refine ⟨?_, ?_, ?_, ?_, ⟨?_, ?_, ?_, ?_⟩, fun k hk => ?_⟩ <;> simp (disch := omega) only [hR, up2_out, up2_nk, up2_in, pR_ne, pR_0, pR_1, pR_2, pR_3, tR_ne]
  exact tR_in hk
theorem fb_50 : fbR R 50 0 = some 51 ∧ fbR R 50 1 = some 52 ∧ fbR R 50 2 = some 59 ∧ fbR R 50 3 = some 60 ∧ (fbR R 60 0 = some 61 ∧ fbR R 60 1 = some 62 ∧ fbR R 60 2 = some 63 ∧ fbR R 60 3 = some 64) ∧ ∀ k, k < 6 → fbR R 52 k = some (53 + k) := by
  simp (disch := omega) only [fbR, up2_out, hR_ne, pR_ne, mgR_ne, acR_ne]
  refine ⟨?_, ?_, ?_, ?_, ⟨?_, ?_, ?_, ?_⟩, fun k hk => ?_⟩ <;> simp (disch := omega) only [hR, up2_out, up2_nk, up2_in, pR_ne, pR_0, pR_1, pR_2, pR_3, tR_ne]
  exact tR_in hk
theorem fb_12 : fbR R 32 1 = some 35 ∧ fbR R 32 2 = some 50 := by
  simp (disch := omega) only [fbR, up2_out, up2_nk, up2_in, hR_ne, pR_ne, mgR_ne, acR_ne]
  exact ⟨trivial, trivial⟩
end FBR
