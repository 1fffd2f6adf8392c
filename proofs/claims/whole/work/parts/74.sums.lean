/-! SUMS the other way round -/
theorem fsum_sh (g : Nat → Int) : ∀ n, fsum g (n + 1) = g 0 + fsum (fun i => g (i + 1)) n
  | 0 => by simp [fsum]
  | n + 1 => by
    have := fsum_sh g n
    rw [fsum, this, fsum]
    omega
theorem fsum_rev (f : Nat → Int) : ∀ s, fsum f s = fsum (fun i => f (s - 1 - i)) s
  | 0 => rfl
  | s + 1 => by
    have e1 : fsum f (s + 1) = fsum f s + f s := rfl
    have e2 := fsum_sh (fun i => f (s + 1 - 1 - i)) s
    have e3 := fsum_rev f s
    have e4 : fsum (fun i => f (s - 1 - i)) s = fsum (fun i => f (s + 1 - 1 - (i + 1))) s := fsum_cg s (fun j hj => by
      show f (s - 1 - j) = f (s + 1 - 1 - (j + 1))
      congr 1
      omega)
    have e5 : f (s + 1 - 1 - 0) = f s := rfl
    rw [e1, e2, e3, e4]
    show _ + f s = f (s + 1 - 1 - 0) + _
    rw [e5]
    omega
theorem fsum_ad (f g : Nat → Int) : ∀ s, fsum (fun i => f i + g i) s = fsum f s + fsum g s
  | 0 => rfl
  | s + 1 => by
    have := fsum_ad f g s
    simp only [fsum]
    omega
/-- pairs t < j < s, by t or by j -/
theorem fsum_sw (h : Nat → Nat → Int) : ∀ s, fsum (fun t => fsum (fun u => h t (t + 1 + u)) (s - (t + 1))) s = fsum (fun b => fsum (fun c => h c b) b) s
  | 0 => rfl
  | s + 1 => by
    have e := fsum_sw h s
    have e1 : fsum (fun t => fsum (fun u => h t (t + 1 + u)) (s + 1 - (t + 1))) (s + 1) = fsum (fun t => fsum (fun u => h t (t + 1 + u)) (s + 1 - (t + 1))) s := by
      rw [fsum, show s + 1 - (s + 1) = 0 by omega]
      simp [fsum]
    have e2 : fsum (fun t => fsum (fun u => h t (t + 1 + u)) (s + 1 - (t + 1))) s = fsum (fun t => fsum (fun u => h t (t + 1 + u)) (s - (t + 1)) + h t s) s := fsum_cg s (fun j hj => by
      show fsum (fun u => h j (j + 1 + u)) (s + 1 - (j + 1)) = fsum (fun u => h j (j + 1 + u)) (s - (j + 1)) + h j s
      rw [show s + 1 - (j + 1) = (s - (j + 1)) + 1 by omega, fsum, show j + 1 + (s - (j + 1)) = s by omega])
    rw [e1, e2, fsum_ad, e, fsum]
theorem sm3_r (g : Nat → Nat → Nat → Int) (i j : Nat) : ∀ f k, sm3 g i j f k = fsum (fun u => g i j (k + u)) f
  | 0, _ => rfl
  | f + 1, k => by
    rw [sm3, sm3_r g i j f (k + 1), fsum_sh]
    rw [fsum_cg (f := fun u => g i j (k + 1 + u)) (g := fun u => g i j (k + (u + 1))) f (fun t _ => by
      show g i j (k + 1 + t) = g i j (k + (t + 1))
      congr 1
      omega)]
    rfl
theorem sm2_r (g : Nat → Nat → Nat → Int) (s i : Nat) : ∀ f j, sm2 g s i f j = fsum (fun t => sm3 g i (j + t) (s - (j + t + 1)) (j + t + 1)) f
  | 0, _ => rfl
  | f + 1, j => by
    rw [sm2, sm2_r g s i f (j + 1), fsum_sh]
    rw [fsum_cg (f := fun t => sm3 g i (j + 1 + t) (s - (j + 1 + t + 1)) (j + 1 + t + 1)) (g := fun t => sm3 g i (j + (t + 1)) (s - (j + (t + 1) + 1)) (j + (t + 1) + 1)) f (fun t _ => by
      show sm3 g i (j + 1 + t) (s - (j + 1 + t + 1)) (j + 1 + t + 1) = sm3 g i (j + (t + 1)) (s - (j + (t + 1) + 1)) (j + (t + 1) + 1)
      rw [show j + 1 + t = j + (t + 1) by omega])]
    rfl
theorem sm1_r (g : Nat → Nat → Nat → Int) (s : Nat) : ∀ f i, sm1 g s f i = fsum (fun t => sm2 g s (i + t) (s - (i + t + 1)) (i + t + 1)) f
  | 0, _ => rfl
  | f + 1, i => by
    rw [sm1, sm1_r g s f (i + 1), fsum_sh]
    rw [fsum_cg (f := fun t => sm2 g s (i + 1 + t) (s - (i + 1 + t + 1)) (i + 1 + t + 1)) (g := fun t => sm2 g s (i + (t + 1)) (s - (i + (t + 1) + 1)) (i + (t + 1) + 1)) f (fun t _ => by
      show sm2 g s (i + 1 + t) (s - (i + 1 + t + 1)) (i + 1 + t + 1) = sm2 g s (i + (t + 1)) (s - (i + (t + 1) + 1)) (i + (t + 1) + 1)
      rw [show i + 1 + t = i + (t + 1) by omega])]
    rfl
/-- rising threes by their last: the order in which the reference takes them -/
def tri (g : Nat → Nat → Nat → Int) (s : Nat) : Int := fsum (fun a => fsum (fun b => fsum (fun c => g c b a) b) a) s
theorem sm1_s (g : Nat → Nat → Nat → Int) (s : Nat) : sm1 g (s + 1) (s + 1) 0 = sm1 g s s 0 + fsum (fun b => fsum (fun c => g c b s) b) s := by
  rw [sm1_r, sm1_r, fsum]
  have z : sm2 g (s + 1) (0 + s) (s + 1 - (0 + s + 1)) (0 + s + 1) = 0 := by
    rw [show s + 1 - (0 + s + 1) = 0 by omega]
    rfl
  rw [z, Int.add_zero, ← fsum_sw (fun c b => g c b s) s, ← fsum_ad]
  refine fsum_cg s (fun t ht => ?_)
  rw [show 0 + t = t by omega, show s + 1 - (t + 1) = (s - (t + 1)) + 1 by omega, sm2_r, sm2_r, fsum]
  have z2 : sm3 g t (t + 1 + (s - (t + 1))) (s + 1 - (t + 1 + (s - (t + 1)) + 1)) (t + 1 + (s - (t + 1)) + 1) = 0 := by
    rw [show s + 1 - (t + 1 + (s - (t + 1)) + 1) = 0 by omega]
    rfl
  rw [z2, Int.add_zero, ← fsum_ad]
  refine fsum_cg _ (fun u hu => ?_)
  rw [show s + 1 - (t + 1 + u + 1) = (s - (t + 1 + u + 1)) + 1 by omega, sm3_r, sm3_r, fsum]
  show _ + g t (t + 1 + u) (t + 1 + u + 1 + (s - (t + 1 + u + 1))) = _
  rw [show t + 1 + u + 1 + (s - (t + 1 + u + 1)) = s by omega]
theorem sm1_tri (g : Nat → Nat → Nat → Int) : ∀ s, sm1 g s s 0 = tri g s
  | 0 => rfl
  | s + 1 => by
    rw [sm1_s, sm1_tri g s]
    unfold tri
    rw [fsum]
