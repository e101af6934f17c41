theorem sm_add (f g : Nat → Int) : ∀ n, sm (fun i => f i + g i) n = sm f n + sm g n
  | 0 => rfl
  | n + 1 => by show sm _ n + _ = (sm f n + f n) + (sm g n + g n); rw [sm_add f g n]; show _ + (f n + g n) = _; omega
theorem sm_mul (c : Int) (f : Nat → Int) : ∀ n, sm (fun i => c * f i) n = c * sm f n
  | 0 => by simp [sm]
  | n + 1 => by show sm _ n + c * f n = c * (sm f n + f n); rw [sm_mul c f n, Int.mul_add]
theorem sm_zero {f : Nat → Int} : ∀ {n : Nat}, (∀ i, i < n → f i = 0) → sm f n = 0
  | 0, _ => rfl
  | n + 1, h => by show sm f n + f n = 0; rw [sm_zero (fun i hi => h i (by omega)), h n (by omega)]; rfl
theorem sm_swap (F : Nat → Nat → Int) (n : Nat) : ∀ k, sm (fun S => sm (fun h => F S h) n) k = sm (fun h => sm (fun S => F S h) k) n
  | 0 => by
    show (0 : Int) = _
    exact (sm_zero (fun _ _ => rfl)).symm
  | k + 1 => by
    show sm (fun S => sm (fun h => F S h) n) k + sm (fun h => F k h) n = _
    rw [sm_swap F n k, ← sm_add]
    rfl
theorem sm_one {f : Nat → Int} {i : Nat} : ∀ {n : Nat}, i < n → (∀ j, j < n → j ≠ i → f j = 0) → sm f n = f i := by
  intro n hi h
  have := sm_chg (f := fun _ => 0) (g := f) (i := i) hi (fun j hj hne => h j hj hne)
  rw [this, sm_zero (fun _ _ => rfl)]
  omega
def tg (S h : Nat) : Nat := S ^^^ 2 ^ h
theorem tg_bit (S h i : Nat) : (tg S h).testBit i = if i = h then !S.testBit h else S.testBit i := by
  unfold tg
  rw [Nat.testBit_xor, Nat.testBit_two_pow]
  by_cases e : i = h
  · subst e; simp
  · rw [if_neg e, decide_eq_false (fun z => e z.symm)]; simp
theorem tg_tg (S h : Nat) : tg (tg S h) h = S := by
  apply Nat.eq_of_testBit_eq
  intro i
  rw [tg_bit, tg_bit, tg_bit]
  by_cases e : i = h
  · subst e; simp
  · simp [e]
theorem tg_lt {S h n : Nat} (hS : S < 2 ^ n) (hh : h < n) : tg S h < 2 ^ n := Nat.xor_lt_two_pow hS (Nat.pow_lt_pow_right (by omega) hh)
theorem tg_up {S h : Nat} (hb : S.testBit h = false) : S < tg S h := by
  refine Nat.lt_of_le_of_ne (Nat.le_of_testBit (fun i hi => ?_)) (fun e => ?_)
  · rw [tg_bit]
    by_cases c : i = h
    · subst c; rw [hb] at hi; cases hi
    · rw [if_neg c]; exact hi
  · have := tg_bit S h h
    rw [← e, if_pos rfl, hb] at this; cases this
theorem tg_dn {S h : Nat} (hb : S.testBit h = true) : tg S h < S := by
  have := tg_up (S := tg S h) (h := h) (by rw [tg_bit, if_pos rfl, hb]; rfl)
  rwa [tg_tg] at this
theorem adn_zero (x S : Nat) : adn x S = 0 ↔ ∀ i, x.testBit i = true → S.testBit i = true := by
  constructor
  · intro h i hi
    have := adn_bit x S i
    rw [h, Nat.zero_testBit, hi] at this
    cases hs : S.testBit i
    · rw [hs] at this; cases this
    · rfl
  · intro h
    apply Nat.eq_of_testBit_eq
    intro i
    rw [adn_bit, Nat.zero_testBit]
    cases hx : x.testBit i
    · rfl
    · rw [h i hx]; rfl
/-- house h may come next behind the set S -/
def mayB (m : Nat → Nat) (S h : Nat) : Bool := !S.testBit h && decide (adn (m h) S = 0)
theorem may_no {m : Nat → Nat} {S h : Nat} (e : mayB m S h = true) : S.testBit h = false := by
  unfold mayB at e
  cases hs : S.testBit h
  · rfl
  · rw [hs] at e; cases e
abbrev upE (m : Nat → Nat) (T h : Nat) : Prop := T.testBit h = true ∧ mayB m (tg T h) h = true
def wTv (m : Nat → Nat) (n : Nat) : Nat → Nat → Int
  | 0, _ => 0
  | f + 1, T => (if T = 0 then 1 else 0) + sm (fun h => if upE m T h then wTv m n f (tg T h) else 0) n
def wFv (m : Nat → Nat) (n : Nat) : Nat → Nat → Int
  | 0, _ => 0
  | f + 1, S => (if S = 2 ^ n - 1 then 1 else 0) + sm (fun h => if mayB m S h = true then wFv m n f (tg S h) else 0) n
theorem wTv_st (m : Nat → Nat) (n : Nat) : ∀ f T, T < f → wTv m n f T = wTv m n (f + 1) T
  | 0, T, h => by omega
  | f + 1, T, h => by
    rw [wTv, wTv]
    congr 1
    refine sm_ext (fun i hi => ?_)
    by_cases c : upE m T i
    · rw [if_pos c, if_pos c]
      have := tg_dn c.1
      exact wTv_st m n f _ (by omega)
    · rw [if_neg c, if_neg c]
theorem wFv_st (m : Nat → Nat) (n : Nat) : ∀ f S, S < 2 ^ n → 2 ^ n ≤ S + f → wFv m n f S = wFv m n (f + 1) S
  | 0, S, h1, h => by omega
  | f + 1, S, h1, h => by
    rw [wFv, wFv]
    congr 1
    refine sm_ext (fun i hi => ?_)
    by_cases c : mayB m S i = true
    · rw [if_pos c, if_pos c]
      have := tg_up (may_no c)
      exact wFv_st m n f _ (tg_lt h1 hi) (by omega)
    · rw [if_neg c, if_neg c]
def wT (m : Nat → Nat) (n T : Nat) : Int := wTv m n 128 T
def wF (m : Nat → Nat) (n S : Nat) : Int := wFv m n 128 S
theorem wT_eq (m : Nat → Nat) {n T : Nat} (h : T < 128) : wT m n T = (if T = 0 then 1 else 0) + sm (fun h => if upE m T h then wT m n (tg T h) else 0) n := by
  show wTv m n (127 + 1) T = _
  rw [wTv]
  refine congrArg (fun z : Int => (if T = 0 then 1 else 0) + z) (sm_ext (fun i hi => ?_))
  by_cases c : upE m T i
  · rw [if_pos c, if_pos c]
    have := tg_dn c.1
    exact wTv_st m n 127 _ (by omega)
  · rw [if_neg c, if_neg c]
theorem wF_eq (m : Nat → Nat) {n S : Nat} (hn : n ≤ 7) (h : S < 2 ^ n) : wF m n S = (if S = 2 ^ n - 1 then 1 else 0) + sm (fun h => if mayB m S h = true then wF m n (tg S h) else 0) n := by
  have h2 : 2 ^ n ≤ 2 ^ 7 := Nat.pow_le_pow_right (by omega) hn
  show wFv m n (127 + 1) S = _
  rw [wFv]
  refine congrArg (fun z : Int => (if S = 2 ^ n - 1 then 1 else 0) + z) (sm_ext (fun i hi => ?_))
  by_cases c : mayB m S i = true
  · rw [if_pos c, if_pos c]
    have := tg_up (may_no c)
    exact wFv_st m n 127 _ (tg_lt h hi) (by omega)
  · rw [if_neg c, if_neg c]
/-- each step counted from where it goes, or from where it comes -/
theorem step_sw (n : Nat) (E : Nat → Nat → Bool) (hE : ∀ S h, E S h = true → S.testBit h = false) (u v : Nat → Int) :
    sm (fun S => sm (fun h => if E S h = true then u S * v (tg S h) else 0) n) (2 ^ n) = sm (fun T => sm (fun h => if T.testBit h = true ∧ E (tg T h) h = true then u (tg T h) * v T else 0) n) (2 ^ n) := by
  refine (sm_swap (fun S h => if E S h = true then u S * v (tg S h) else 0) n _).trans (Eq.trans ?_ (sm_swap (fun T h => if T.testBit h = true ∧ E (tg T h) h = true then u (tg T h) * v T else 0) n _).symm)
  refine sm_ext (fun h hh => ?_)
  have := sm_perm (2 ^ n) (fun S => tg S h) (fun i hi => tg_lt hi hh) (fun a b _ _ e => by
    have e2 : tg (tg a h) h = tg (tg b h) h := by rw [show tg a h = tg b h from e]
    rwa [tg_tg, tg_tg] at e2) (fun T => if T.testBit h = true ∧ E (tg T h) h = true then u (tg T h) * v T else 0)
  rw [← this]
  refine sm_ext (fun S hS => ?_)
  show _ = if (tg S h).testBit h = true ∧ E (tg (tg S h) h) h = true then u (tg (tg S h) h) * v (tg S h) else 0
  rw [tg_tg]
  by_cases c : E S h = true
  · rw [if_pos c, if_pos ⟨by rw [tg_bit, if_pos rfl, hE S h c]; rfl, c⟩]
  · rw [if_neg c, if_neg (fun z => c z.2)]
theorem resolve (n : Nat) (E E' : Nat → Nat → Bool) (hE : ∀ S h, E S h = true → S.testBit h = false) (hE' : ∀ S h, E' S h = true → E S h = true) (u v : Nat → Int)
    (hu : ∀ T, T < 2 ^ n → u T = (if T = 0 then 1 else 0) + sm (fun h => if T.testBit h = true ∧ E (tg T h) h = true then u (tg T h) else 0) n)
    (hv : ∀ S, S < 2 ^ n → v S = (if S = 2 ^ n - 1 then 1 else 0) + sm (fun h => if E' S h = true then v (tg S h) else 0) n) :
    u (2 ^ n - 1) = v 0 + sm (fun S => sm (fun h => if E S h = true ∧ E' S h = false then u S * v (tg S h) else 0) n) (2 ^ n) := by
  have hp : 0 < 2 ^ n := Nat.two_pow_pos n
  -- sum of u S * v S, by hv and by hu
  have a1 : sm (fun S => u S * v S) (2 ^ n) = u (2 ^ n - 1) + sm (fun S => sm (fun h => if E' S h = true then u S * v (tg S h) else 0) n) (2 ^ n) := by
    have e : sm (fun S => u S * v S) (2 ^ n) = sm (fun S => (if S = 2 ^ n - 1 then u S else 0) + sm (fun h => if E' S h = true then u S * v (tg S h) else 0) n) (2 ^ n) := by
      refine sm_ext (fun S hS => ?_)
      rw [hv S hS, Int.mul_add, ← sm_mul]
      congr 1
      · by_cases c : S = 2 ^ n - 1
        · rw [if_pos c, if_pos c, Int.mul_one]
        · rw [if_neg c, if_neg c, Int.mul_zero]
      · refine sm_ext (fun h hh => ?_)
        by_cases c : E' S h = true
        · rw [if_pos c, if_pos c]
        · rw [if_neg c, if_neg c, Int.mul_zero]
    rw [e, sm_add]
    congr 1
    rw [sm_one (i := 2 ^ n - 1) (by omega) (fun j _ hj => if_neg hj), if_pos rfl]
  have a2 : sm (fun S => u S * v S) (2 ^ n) = v 0 + sm (fun S => sm (fun h => if E S h = true then u S * v (tg S h) else 0) n) (2 ^ n) := by
    rw [step_sw n E hE u v]
    have e : sm (fun S => u S * v S) (2 ^ n) = sm (fun T => (if T = 0 then v T else 0) + sm (fun h => if T.testBit h = true ∧ E (tg T h) h = true then u (tg T h) * v T else 0) n) (2 ^ n) := by
      refine sm_ext (fun T hT => ?_)
      rw [hu T hT, Int.add_mul, Int.mul_comm (sm _ n), ← sm_mul]
      congr 1
      · by_cases c : T = 0
        · rw [if_pos c, if_pos c, Int.one_mul]
        · rw [if_neg c, if_neg c, Int.zero_mul]
      · refine sm_ext (fun h hh => ?_)
        by_cases c : T.testBit h = true ∧ E (tg T h) h = true
        · rw [if_pos c, if_pos c, Int.mul_comm]
        · rw [if_neg c, if_neg c, Int.mul_zero]
    rw [e, sm_add]
    congr 1
    rw [sm_one (i := 0) hp (fun j _ hj => if_neg hj), if_pos rfl]
  have a3 : sm (fun S => sm (fun h => if E S h = true then u S * v (tg S h) else 0) n) (2 ^ n) = sm (fun S => sm (fun h => if E' S h = true then u S * v (tg S h) else 0) n) (2 ^ n) + sm (fun S => sm (fun h => if E S h = true ∧ E' S h = false then u S * v (tg S h) else 0) n) (2 ^ n) := by
    rw [← sm_add]
    refine sm_ext (fun S hS => ?_)
    rw [← sm_add]
    refine sm_ext (fun h hh => ?_)
    cases c' : E' S h
    · by_cases c : E S h = true
      · rw [if_pos c, if_neg (by simp), if_pos ⟨c, rfl⟩]; omega
      · rw [if_neg c, if_neg (by simp), if_neg (fun z => c z.1)]; rfl
    · rw [if_pos (hE' S h c'), if_pos rfl, if_neg (by simp)]; omega
  omega
/-- the same, and b behind a -/
def mAdd (m : Nat → Nat) (a b : Nat) : Nat → Nat := fun h => if h = b then m b ||| 2 ^ a else m h
theorem may_add (m : Nat → Nat) (a b S h : Nat) : mayB (mAdd m a b) S h = (mayB m S h && (decide (h ≠ b) || S.testBit a)) := by
  unfold mayB mAdd
  by_cases e : h = b
  · subst e
    rw [if_pos rfl]
    have : decide (adn (m h ||| 2 ^ a) S = 0) = (decide (adn (m h) S = 0) && S.testBit a) := by
      rw [Bool.eq_iff_iff]
      simp only [decide_eq_true_eq, Bool.and_eq_true, adn_zero, Nat.testBit_or, Bool.or_eq_true, Nat.testBit_two_pow]
      constructor
      · intro z
        exact ⟨fun i hi => z i (Or.inl hi), z a (Or.inr rfl)⟩
      · rintro ⟨z1, z2⟩ i (hi | hi)
        · exact z1 i hi
        · rw [← hi]; exact z2
    rw [this]
    simp [Bool.and_assoc]
  · rw [if_neg e]
    simp [e]
theorem may_addp {m : Nat → Nat} {a b S h : Nat} (e : mayB (mAdd m a b) S h = true) : mayB m S h = true := by
  rw [may_add] at e
  simp at e
  exact e.1
/-- downward over sets -/
theorem dn_ind {N : Nat} {P : Nat → Prop} (h : ∀ S, S < N → (∀ T, S < T → T < N → P T) → P S) : ∀ S, S < N → P S := by
  have key : ∀ k S, S < N → N ≤ S + k → P S := by
    intro k
    induction k with
    | zero => intro S h1 h2; omega
    | succ k ih => intro S h1 h2; exact h S h1 (fun T t1 t2 => ih T t2 (by omega))
  exact fun S hS => key N S hS (by omega)
theorem wF_in {m : Nat → Nat} {n a b : Nat} (hn : n ≤ 7) : ∀ S, S < 2 ^ n → (S.testBit a = true ∨ S.testBit b = true) → wF (mAdd m a b) n S = wF m n S := by
  refine dn_ind (fun S hS ih hb => ?_)
  rw [wF_eq _ hn hS, wF_eq _ hn hS]
  congr 1
  refine sm_ext (fun h hh => ?_)
  have e : mayB (mAdd m a b) S h = mayB m S h := by
    rw [may_add]
    cases c : mayB m S h
    · rfl
    · have := may_no c
      rcases hb with hb | hb
      · rw [hb]; simp
      · have : h ≠ b := fun z => by rw [z] at this; rw [this] at hb; cases hb
        simp [this]
  rw [e]
  by_cases c : mayB m S h = true
  · rw [if_pos c, if_pos c]
    refine ih _ (tg_up (may_no c)) (tg_lt hS hh) ?_
    rw [tg_bit, tg_bit]
    rcases hb with hb | hb
    · left; by_cases e2 : a = h
      · subst e2; rw [may_no c] at hb; cases hb
      · rw [if_neg e2]; exact hb
    · right; by_cases e2 : b = h
      · subst e2; rw [may_no c] at hb; cases hb
      · rw [if_neg e2]; exact hb
  · rw [if_neg c, if_neg c]
theorem wF_self {m : Nat → Nat} {n b : Nat} (hn : n ≤ 7) (hb : b < n) : ∀ S, S < 2 ^ n → S.testBit b = false → wF (mAdd m b b) n S = 0 := by
  refine dn_ind (fun S hS ih h0 => ?_)
  rw [wF_eq _ hn hS, if_neg (fun z => by rw [z, Nat.testBit_two_pow_sub_one, decide_eq_true hb] at h0; cases h0)]
  rw [sm_zero (fun h hh => ?_)]
  · rfl
  · by_cases c : mayB (mAdd m b b) S h = true
    · rw [if_pos c]
      have hne : b ≠ h := fun z => by
        subst z
        rw [may_add, h0] at c
        simp at c
      exact ih _ (tg_up (may_no c)) (tg_lt hS hh) (by rw [tg_bit, if_neg hne]; exact h0)
    · rw [if_neg c]
theorem wF_two {m : Nat → Nat} {n a b : Nat} (hn : n ≤ 7) (ha : a < n) (hb : b < n) (hab : a ≠ b) : ∀ S, S < 2 ^ n → S.testBit a = false → S.testBit b = false → wF m n S = wF (mAdd m a b) n S + wF (mAdd m b a) n S := by
  refine dn_ind (fun S hS ih h0 h1 => ?_)
  have hne : S ≠ 2 ^ n - 1 := fun z => by rw [z, Nat.testBit_two_pow_sub_one, decide_eq_true ha] at h0; cases h0
  rw [wF_eq _ hn hS, wF_eq _ hn hS, wF_eq _ hn hS, if_neg hne, Int.zero_add, Int.zero_add, Int.zero_add, ← sm_add]
  refine sm_ext (fun h hh => ?_)
  by_cases c : mayB m S h = true
  · rw [if_pos c]
    have u := tg_up (may_no c)
    have l := tg_lt hS hh
    by_cases e1 : h = a
    · subst e1
      have m1 : mayB (mAdd m h b) S h = true := by rw [may_add, c]; simp [hab]
      have m2 : mayB (mAdd m b h) S h = false := by rw [may_add, c, h1]; simp
      rw [if_pos m1, if_neg (by rw [m2]; exact Bool.false_ne_true), Int.add_zero]
      exact (wF_in hn _ l (Or.inl (by rw [tg_bit, if_pos rfl, h0]; rfl))).symm
    · by_cases e2 : h = b
      · subst e2
        have m1 : mayB (mAdd m a h) S h = false := by rw [may_add, c, h0]; simp
        have m2 : mayB (mAdd m h a) S h = true := by rw [may_add, c]; simp [e1]
        rw [if_neg (by rw [m1]; exact Bool.false_ne_true), if_pos m2, Int.zero_add]
        exact (wF_in hn _ l (Or.inl (by rw [tg_bit, if_pos rfl, h1]; rfl))).symm
      · have m1 : mayB (mAdd m a b) S h = true := by rw [may_add, c]; simp [e2]
        have m2 : mayB (mAdd m b a) S h = true := by rw [may_add, c]; simp [e1]
        rw [if_pos m1, if_pos m2]
        exact ih _ u l (by rw [tg_bit, if_neg (fun z => e1 z.symm)]; exact h0) (by rw [tg_bit, if_neg (fun z => e2 z.symm)]; exact h1)
  · rw [if_neg c, if_neg (fun z => c (may_addp z)), if_neg (fun z => c (may_addp z))]; rfl
