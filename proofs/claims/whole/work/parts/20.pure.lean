theorem bv_nat {a : Nat} (ha : a < 2147483648) : (Int32.ofInt (a : Int)).toBitVec.toNat = a := by
  show (BitVec.ofInt 32 (a : Int)).toNat = a
  rw [BitVec.toNat_ofInt]
  omega
theorem i32_nat {x : Int32} {a : Nat} (h : x.toBitVec.toNat = a) (ha : a < 2147483648) : x.toInt = (a : Int) := by
  show x.toBitVec.toInt = (a : Int)
  rw [BitVec.toInt_eq_toNat_of_lt (by omega), h]
theorem andI_nat {a b : Nat} (ha : a < 2147483648) (hb : b < 2147483648) : andI (a : Int) (b : Int) = ((a &&& b : Nat) : Int) := by
  refine i32_nat ?_ (Nat.lt_of_le_of_lt Nat.and_le_left ha)
  rw [Int32.toBitVec_and, BitVec.toNat_and, bv_nat ha, bv_nat hb]
theorem or_lt31 {a b : Nat} (ha : a < 2147483648) (hb : b < 2147483648) : a ||| b < 2147483648 := Nat.or_lt_two_pow (n := 31) ha hb
theorem xor_lt31 {a b : Nat} (ha : a < 2147483648) (hb : b < 2147483648) : a ^^^ b < 2147483648 := Nat.xor_lt_two_pow (n := 31) ha hb
theorem orI_nat {a b : Nat} (ha : a < 2147483648) (hb : b < 2147483648) : orI (a : Int) (b : Int) = ((a ||| b : Nat) : Int) := by
  refine i32_nat ?_ (or_lt31 ha hb)
  rw [Int32.toBitVec_or, BitVec.toNat_or, bv_nat ha, bv_nat hb]
theorem xorI_nat {a b : Nat} (ha : a < 2147483648) (hb : b < 2147483648) : xorI (a : Int) (b : Int) = ((a ^^^ b : Nat) : Int) := by
  refine i32_nat ?_ (xor_lt31 ha hb)
  rw [Int32.toBitVec_xor, BitVec.toNat_xor, bv_nat ha, bv_nat hb]
theorem sm31 : ∀ k : Nat, k < 32 → ((Int32.ofInt (k : Int) &&& 31).toBitVec.smod 32).toNat = k := by decide +kernel
theorem shlI_nat {a k : Nat} (hk : k < 32) (h : a * 2 ^ k < 2147483648) : shlI (a : Int) (k : Int) = ((a * 2 ^ k : Nat) : Int) := by
  have ha : a < 2147483648 := Nat.lt_of_le_of_lt (Nat.le_mul_of_pos_right _ (Nat.two_pow_pos k)) h
  refine i32_nat ?_ h
  rw [pk_shl _ _ k (sm31 k hk), bv_nat ha]
  exact Nat.mod_eq_of_lt (by omega)
theorem shrI_nat {a k : Nat} (hk : k < 32) (ha : a < 2147483648) : shrI (a : Int) (k : Int) = ((a / 2 ^ k : Nat) : Int) := by
  unfold shrI
  rw [pk_shr _ _ k (sm31 k hk), oI ⟨by omega, by omega⟩, Int.shiftRight_eq_div_pow]
  exact (Int.natCast_ediv a (2 ^ k)).symm ▸ (by simp)
theorem not_nat {b : Nat} (hb : b < 2147483648) : xorI (b : Int) (-1) = -(b : Int) - 1 := by
  unfold xorI
  have e : (Int32.ofInt (b : Int) ^^^ Int32.ofInt (-1)) = ~~~ Int32.ofInt (b : Int) := by
    apply Int32.toBitVec_inj.mp
    rw [Int32.toBitVec_xor, Int32.toBitVec_not]
    show (Int32.ofInt (b : Int)).toBitVec ^^^ BitVec.allOnes 32 = _
    exact BitVec.xor_allOnes
  rw [e, Int32.toInt_not, oI ⟨by omega, by omega⟩]
  exact Int.bmod_eq_of_le (by omega) (by omega)
/-- a without the bits of b -/
def adn (a b : Nat) : Nat := a ^^^ (a &&& b)
theorem adn_bit (a b i : Nat) : (adn a b).testBit i = (a.testBit i && !b.testBit i) := by
  unfold adn
  rw [Nat.testBit_xor, Nat.testBit_and]
  cases a.testBit i <;> cases b.testBit i <;> rfl
theorem adn_le (a b : Nat) : adn a b ≤ a := by
  apply Nat.le_of_testBit
  intro i h
  rw [adn_bit] at h
  simp at h
  exact h.1
theorem andn_nat {a b : Nat} (ha : a < 2147483648) (hb : b < 2147483648) : andI (a : Int) (-(b : Int) - 1) = ((adn a b : Nat) : Int) := by
  have hn : Int32.ofInt (-(b : Int) - 1) = ~~~ Int32.ofInt (b : Int) := by
    apply Int32.toInt_inj.mp
    rw [Int32.toInt_not, oI ⟨by omega, by omega⟩, oI ⟨by omega, by omega⟩]
    exact (Int.bmod_eq_of_le (by omega) (by omega)).symm
  refine i32_nat ?_ (Nat.lt_of_le_of_lt (adn_le a b) ha)
  rw [hn, Int32.toBitVec_and, Int32.toBitVec_not, BitVec.toNat_and]
  apply Nat.eq_of_testBit_eq
  intro i
  rw [Nat.testBit_and, bv_nat ha, adn_bit]
  by_cases hi : i < 32
  · congr 1
    rw [BitVec.testBit_toNat, BitVec.getLsbD_not]
    simp only [hi, decide_true, Bool.true_and]
    rw [← BitVec.testBit_toNat, bv_nat hb]
  · have : a.testBit i = false := Nat.testBit_lt_two_pow (Nat.lt_of_lt_of_le (show a < 2 ^ 32 by omega) (Nat.pow_le_pow_right (by omega) (by omega)))
    rw [this]
    simp
theorem bit1 {a k : Nat} (hk : k < 32) (ha : a < 2147483648) : andI (shrI (a : Int) (k : Int)) 1 = if a.testBit k then 1 else 0 := by
  rw [shrI_nat hk ha, show (1 : Int) = ((1 : Nat) : Int) from rfl, andI_nat (Nat.lt_of_le_of_lt (Nat.div_le_self _ _) ha) (by decide), Nat.and_one_is_mod]
  rw [Nat.testBit_eq_decide_div_mod_eq]
  by_cases h : a / 2 ^ k % 2 = 1
  · simp [h]
  · have : a / 2 ^ k % 2 = 0 := by omega
    simp [this]
theorem divI_pos {a d : Nat} (ha : a < 2147483648) (h0 : 0 < d) (hd : d < 2147483648) : divI (a : Int) (d : Int) = ((a / d : Nat) : Int) := by
  unfold divI
  show (nI a / nI d).toInt = _
  rw [pk_div ha h0 hd, nI_toInt (by have := Nat.div_le_self a d; omega)]
theorem remI_pos {a d : Nat} (ha : a < 2147483648) (h0 : 0 < d) (hd : d < 2147483648) : remI (a : Int) (d : Int) = ((a % d : Nat) : Int) := by
  unfold remI
  show (nI a - nI a / nI d * nI d).toInt = _
  rw [pk_rem ha h0 hd, nI_toInt (by have := Nat.mod_le a d; omega)]
