theorem pSt_cg {g : Nat → Bool} {n : Nat} {o A : Int} {W W' : Nat → Int} (hg : ∃ j, j < n ∧ g j = true) (e : ∀ j, j < n → g j = true → W' j = W j) : ∀ k, (∀ j, j < n → g j = true → (pSt g n o A W' k).1 j = (pSt g n o A W k).1 j) ∧ (pSt g n o A W' k).2 = (pSt g n o A W k).2
  | 0 => ⟨e, rfl⟩
  | k + 1 => by
    obtain ⟨h1, h2⟩ := pSt_cg (o := o) (A := A) hg e k
    have ec : lkF g (pSt g n o A W' k).1 o n = lkF g (pSt g n o A W k).1 o n := lkF_cg h1 n (Nat.le_refl _)
    have l1 := lkF_in (g := g) (W := (pSt g n o A W k).1) (o := o) n
    have l2 := lkF_so (g := g) (W := (pSt g n o A W k).1) (o := o) n hg
    have l3 := l1.resolve_left l2
    have ew := h1 (lkF g (pSt g n o A W k).1 o n).toNat (by omega) l3.2.2
    refine ⟨fun j hj c => ?_, ?_⟩
    · show up1 _ _ _ j = up1 _ _ _ j
      rw [up1_eq, up1_eq, ec, ew, h1 j hj c]
    · show (lkF g (pSt g n o A W' k).1 o n, _ + _) = (lkF g (pSt g n o A W k).1 o n, _ + _)
      rw [ec, ew, h2]
theorem pSt_dv {g : Nat → Bool} {n : Nat} {o A : Int} {W : Nat → Int} (h : ∀ j, j < n → ∃ q : Int, W j = q * 100000000) : ∀ k, k ≤ 8 → ∀ j, j < n → ∃ q : Int, (pSt g n o A W k).1 j = q * ((10 ^ (8 - k) : Nat) : Int)
  | 0, _, j, hj => by
    obtain ⟨q, e⟩ := h j hj
    exact ⟨q, e⟩
  | k + 1, hk, j, hj => by
    have ih := pSt_dv (g := g) (o := o) (A := A) h k (by omega)
    have e10 : ((10 ^ (8 - k) : Nat) : Int) = 10 * ((10 ^ (8 - (k + 1)) : Nat) : Int) := by
      rw [show 8 - k = (8 - (k + 1)) + 1 by omega, Nat.pow_succ, Nat.mul_comm]
      push_cast
      rfl
    obtain ⟨q, e⟩ := ih j hj
    show ∃ q : Int, up1 _ _ _ j = _
    rw [up1_eq]
    split
    · rename_i ej
      rw [← ej, e, e10]
      refine ⟨q * (10 - o), ?_⟩
      rw [show q * (10 * ((10 ^ (8 - (k + 1)) : Nat) : Int)) = 10 * (q * ((10 ^ (8 - (k + 1)) : Nat) : Int)) by rw [← Int.mul_assoc, Int.mul_comm q 10, Int.mul_assoc], Int.mul_ediv_cancel_left _ (by decide)]
      rw [Int.mul_assoc, Int.mul_comm _ (10 - o), ← Int.mul_assoc]
    · rw [e, e10]
      exact ⟨q * 10, by rw [Int.mul_assoc]⟩
theorem chance_eq {w o T : Int} {q : Int} (h : w = 10 * q) : w * o * 1000000 / (T * 100000000 * 10) = w / 10 * o * 1000000 / (T * 100000000) := by
  subst h
  rw [Int.mul_ediv_cancel_left _ (by decide), show 10 * q * o * 1000000 = 10 * (q * o * 1000000) by rw [Int.mul_assoc, Int.mul_assoc, Int.mul_assoc], Int.mul_comm (T * 100000000) 10, Int.mul_ediv_mul_of_pos _ _ (by decide)]
