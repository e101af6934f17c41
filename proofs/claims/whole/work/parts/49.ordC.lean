def pcN (S : Nat) : Nat := (S.testBit 0).toNat + (S.testBit 1).toNat + (S.testBit 2).toNat + (S.testBit 3).toNat + (S.testBit 4).toNat + (S.testBit 5).toNat + (S.testBit 6).toNat
theorem pcN_dn : ∀ S, S < 128 → ∀ h, h < 7 → S.testBit h = true → pcN (tg S h) + 1 = pcN S := by decide +kernel
theorem pcN_up : ∀ S, S < 128 → ∀ h, h < 7 → S.testBit h = false → pcN (tg S h) = pcN S + 1 := by decide +kernel
theorem pcN_le : ∀ S, S < 128 → pcN S ≤ 7 := by decide +kernel
theorem pcN_full : ∀ n, n < 8 → pcN (2 ^ n - 1) = n := by decide +kernel
theorem cnt_in {f c : Nat → Int} {e : Nat → Nat → Prop} [inst : ∀ S h, Decidable (e S h)] {n : Nat} (hn : n ≤ 7) (mu : Nat → Nat) (D : Nat → Prop) (hf : ∀ S, D S → f S = c S + sm (fun h => if e S h then f (tg S h) else 0) n) (hc : ∀ S, 0 ≤ c S ∧ c S ≤ 1) (hm : ∀ S h, D S → h < n → e S h → D (tg S h) ∧ mu (tg S h) < mu S) : ∀ k S, D S → mu S ≤ k → 0 ≤ f S ∧ f S ≤ ((8 ^ k : Nat) : Int)
  | 0, S, hD, hk => by
    rw [hf S hD, sm_zero (fun h hh => if_neg (fun z => by have := (hm S h hD hh z).2; omega))]
    have := hc S
    simp; omega
  | k + 1, S, hD, hk => by
    have ih := cnt_in hn mu D hf hc hm k
    have hp : 0 < 8 ^ k := Nat.pow_pos (by omega)
    have h1 := sm_le (f := fun h => if e S h then f (tg S h) else 0) (c := 8 ^ k) n (fun i hi => by
      by_cases z : e S i
      · have g := hm S i hD hi z
        show 0 ≤ (if e S i then f (tg S i) else 0) ∧ (if e S i then f (tg S i) else 0) ≤ _
        rw [if_pos z]
        exact ih _ g.1 (by omega)
      · show 0 ≤ (if e S i then f (tg S i) else 0) ∧ (if e S i then f (tg S i) else 0) ≤ _
        rw [if_neg z]
        omega)
    have h2 : n * 8 ^ k ≤ 7 * 8 ^ k := Nat.mul_le_mul_right _ hn
    rw [hf S hD, Nat.pow_succ]
    have := hc S
    omega
theorem pw7 {n : Nat} (hn : n ≤ 7) : 2 ^ n ≤ 128 ∧ 1 ≤ 2 ^ n := ⟨Nat.pow_le_pow_right (n := 2) (by omega) hn, Nat.one_le_two_pow⟩
theorem wT_in {m : Nat → Nat} {n T : Nat} (hn : n ≤ 7) (hT : T < 128) : 0 ≤ wT m n T ∧ wT m n T ≤ 2097152 :=
  cnt_in (f := wT m n) (c := fun T => if T = 0 then 1 else 0) (e := fun T h => upE m T h) hn pcN (fun T => T < 128) (fun T hT => wT_eq m hT) (fun S => by show 0 ≤ (if S = 0 then (1 : Int) else 0) ∧ (if S = 0 then (1 : Int) else 0) ≤ 1; split <;> omega) (fun S h hD hh z => by
    have h1 := tg_dn z.1
    have h2 := pcN_dn S hD h (by omega) z.1
    exact ⟨by omega, by omega⟩) 7 T hT (pcN_le T hT)
theorem wF_bd {m : Nat → Nat} {n S : Nat} (hn : n ≤ 7) (hS : S < 2 ^ n) : 0 ≤ wF m n S ∧ wF m n S ≤ 2097152 :=
  cnt_in (f := wF m n) (c := fun S => if S = 2 ^ n - 1 then 1 else 0) (e := fun S h => mayB m S h = true) hn (fun S => 7 - pcN S) (fun S => S < 2 ^ n) (fun S hS => wF_eq m hn hS) (fun S => by show 0 ≤ (if S = 2 ^ n - 1 then (1 : Int) else 0) ∧ (if S = 2 ^ n - 1 then (1 : Int) else 0) ≤ 1; split <;> omega) (fun S h hD hh z => by
    have h7 := pw7 hn
    have hD' : S < 2 ^ n := hD
    have h1 := tg_lt hD hh
    have h2 := pcN_up S (by omega) h (by omega) (may_no z)
    have h3 := pcN_le (tg S h) (by omega)
    exact ⟨h1, by show 7 - pcN (tg S h) < 7 - pcN S; omega⟩) 7 S hS (by show 7 - pcN S ≤ 7; omega)
theorem wT_full {m : Nat → Nat} {n : Nat} (hn : n ≤ 7) : wT m n (2 ^ n - 1) = wF m n 0 := by
  have h7 := pw7 hn
  have := resolve n (mayB m) (mayB m) (fun S h z => may_no z) (fun S h z => z) (wT m n) (wF m n) (fun T hT => wT_eq m (by omega)) (fun S hS => wF_eq m hn hS)
  rw [this, sm_zero (fun S hS => sm_zero (fun h hh => if_neg (fun z => by rw [z.1] at z; cases z.2)))]
  omega
theorem adn_pow (S h : Nat) : adn S (2 ^ h) = if S.testBit h = true then tg S h else S := by
  apply Nat.eq_of_testBit_eq
  intro i
  rw [adn_bit, Nat.testBit_two_pow]
  cases hb : S.testBit h
  · rw [if_neg (by simp)]
    by_cases e : h = i
    · subst e; rw [hb]; rfl
    · simp [e]
  · rw [if_pos rfl, tg_bit]
    by_cases e : h = i
    · subst e; simp [hb]
    · rw [if_neg (fun z => e z.symm)]; simp [e]
theorem or_pow {S h : Nat} (hb : S.testBit h = false) : S ||| 2 ^ h = tg S h := by
  apply Nat.eq_of_testBit_eq
  intro i
  rw [Nat.testBit_or, tg_bit, Nat.testBit_two_pow]
  by_cases e : h = i
  · subst e; simp [hb]
  · rw [if_neg (fun z => e z.symm)]; simp [e]
theorem shl1 {h : Nat} (hh : h < 31) : shlI 1 (h : Int) = ((2 ^ h : Nat) : Int) := by
  have h2 : 2 ^ h ≤ 2 ^ 30 := Nat.pow_le_pow_right (by omega) (by omega)
  have := shlI_nat (a := 1) (k := h) (by omega) (by rw [Nat.one_mul]; omega)
  rwa [Nat.one_mul] at this
theorem pw6 {k : Nat} (hk : k < 7) : 2 ^ k ≤ 64 ∧ 1 ≤ 2 ^ k := ⟨Nat.pow_le_pow_right (n := 2) (by omega) (show k ≤ 6 by omega), Nat.one_le_two_pow⟩
theorem orI_pow {S h : Nat} (hS : S < 128) (hh : h < 7) (hb : S.testBit h = false) : orI (S : Int) (shlI 1 (h : Int)) = ((tg S h : Nat) : Int) := by
  have := pw6 hh
  rw [shl1 (by omega), orI_nat (by omega) (by omega), or_pow hb]
theorem c_countWays {m : Nat → Nat} {n : Nat} {M : Mm} (hn : n ≤ 7) (hm : ∀ h, h < n → M 68 h = (m h : Int) ∧ m h < 128) : S_Rows_countWays 62 (n : Int) M (fun r M' => r = wT m n (2 ^ n - 1) ∧ FrC (fun c => c = 67) M M') := by
  have h7 := pw7 hn
  refine e_Rows_countWays 62 _ M fun K hK => w_Rows_countWays_0 hK 62 atC_62 _ M ?_
  rintro M1 rfl
  rw [shl1 (by omega)]
  have key : ∀ S, S ≤ 2 ^ n → 1 ≤ S → ∀ M2 : Mm, (∀ T, T < S → M2 67 T = wT m n T) → FrC (fun c => c = 67) M M2 → K NN RRC 13 [(0, vr 62), (1, vi (n : Int)), (2, vi ((2 ^ n : Nat) : Int)), (3, vi (S : Int))] [] M2 := by
    refine up_ind ?_ ?_
    · intro _ M2 s1 s2
      refine w_Rows_countWays_13 hK 62 atC_62 _ _ _ M2 ⟨by omega, by omega, fun _ => ⟨by omega, ?_, s2⟩, fun z => absurd (Int.le_refl _) z⟩
      rw [show (((2 ^ n : Nat) : Int) - 1).toNat = 2 ^ n - 1 by omega]
      exact s1 _ (by omega)
    · intro S hS ih h1 M2 s1 s2
      refine w_Rows_countWays_13 hK 62 atC_62 _ _ _ M2 ⟨by omega, by omega, fun z => by omega, fun _ => ⟨by omega, ?_⟩⟩
      rintro M3 rfl
      rw [Int.toNat_natCast]
      have inn : ∀ k, k ≤ n → ∀ M4 : Mm, (∀ T, T < S → M4 67 T = wT m n T) → M4 67 S = sm (fun h => if upE m S h then wT m n (tg S h) else 0) k → FrC (fun c => c = 67) M M4 → K NN RRC 28 [(0, vr 62), (1, vi (n : Int)), (2, vi ((2 ^ n : Nat) : Int)), (3, vi (S : Int)), (4, vi (k : Int))] [] M4 := by
        refine up_ind ?_ ?_
        · intro M4 q1 q2 q3
          refine w_Rows_countWays_28 hK 62 atC_62 _ _ _ _ M4 ⟨by omega, by omega, fun _ => ih (by omega) M4 (fun T hT => ?_) q3, fun z => absurd (Int.le_refl _) z⟩
          by_cases e : T = S
          · rw [e, q2, wT_eq m (by omega), if_neg (by omega), Int.zero_add]
          · exact q1 T (by omega)
        · intro k hk ih2 M4 q1 q2 q3
          have hk2 := pw6 (show k < 7 by omega)
          have eo : andI (S : Int) (xorI (shlI 1 (k : Int)) (-1)) = ((adn S (2 ^ k) : Nat) : Int) := by rw [shl1 (by omega), not_nat (by omega), andn_nat (by omega) (by omega)]
          have e68 : M4 68 k = (m k : Int) := by rw [q3 68 (by omega)]; exact (hm k hk).1
          have hmk := (hm k hk).2
          refine w_Rows_countWays_28 hK 62 atC_62 _ _ _ _ M4 ?_
          rw [eo, adn_pow]
          cases hb : S.testBit k
          · rw [if_neg Bool.false_ne_true]
            refine ⟨by omega, by omega, fun z => by omega, fun _ => ⟨by omega, fun _ => ih2 M4 q1 ?_ q3, fun z => absurd rfl z⟩⟩
            show _ = sm _ k + (if upE m S k then wT m n (tg S k) else 0)
            rw [if_neg (fun z => by have z1 := z.1; rw [hb] at z1; cases z1), Int.add_zero]
            exact q2
          · rw [if_pos rfl]
            have hd := tg_dn hb
            have em : andI (M4 (62 + 6) (k : Int).toNat) (xorI ((tg S k : Nat) : Int) (-1)) = ((adn (m k) (tg S k) : Nat) : Int) := by
              rw [Int.toNat_natCast, show M4 (62 + 6) k = _ from e68, not_nat (by omega), andn_nat (by omega) (by omega)]
            rw [em]
            have hf : (tg S k).testBit k = false := by rw [tg_bit, if_pos rfl, hb]; rfl
            refine ⟨by omega, by omega, fun z => by omega, fun _ => ⟨by omega, fun z => by omega, fun _ => ⟨by omega, fun z => ?_, fun z => ⟨by omega, by omega, by omega, ?_⟩⟩⟩⟩
            · refine ih2 M4 q1 ?_ q3
              show _ = sm _ k + (if upE m S k then wT m n (tg S k) else 0)
              rw [if_neg (fun y => by
                have y2 := y.2
                unfold mayB at y2
                rw [hf, decide_eq_false (by omega)] at y2
                cases y2), Int.add_zero]
              exact q2
            · rintro M5 rfl
              rw [Int.toNat_natCast, Int.toNat_natCast]
              refine ih2 _ (fun T hT => ?_) ?_ (q3.tr (FrC.up (c := 62 + 5) rfl))
              · rw [upr_eq, if_pos rfl, up1_eq, if_neg (by omega)]; exact q1 T hT
              · rw [upr_eq, if_pos rfl, up1_eq, if_pos rfl]
                show M4 67 S + M4 67 (tg S k) = sm _ k + (if upE m S k then wT m n (tg S k) else 0)
                rw [q2, q1 _ hd, if_pos ⟨hb, by
                  unfold mayB
                  rw [hf, decide_eq_true (by omega)]
                  rfl⟩]
      refine inn 0 (by omega) _ (fun T hT => ?_) ?_ (s2.tr (FrC.up (c := 62 + 5) rfl))
      · rw [upr_eq, if_pos rfl, up1_eq, if_neg (by omega)]; exact s1 T hT
      · rw [upr_eq, if_pos rfl, up1_eq, if_pos rfl]; rfl
  refine key 1 (by omega) (by omega) _ (fun T hT => ?_) (FrC.up (c := 62 + 5) rfl)
  rw [show T = 0 by omega, upr_eq, if_pos rfl, up1_eq, if_pos rfl, wT_eq m (by omega), if_pos rfl, sm_zero (fun h hh => if_neg (fun z => by have := z.1; rw [Nat.zero_testBit] at this; cases this))]
  rfl
/-- who must be ahead, by what is seen -/
def mS (o w : Nat → Int) : Nat → Nat → Nat
  | 0, _ => 0
  | k + 1, h => if h = (w k).toNat then mS o w k h ||| 2 ^ (o k).toNat else mS o w k h
theorem mS_lt {o w : Nat → Int} : ∀ {k : Nat}, (∀ i, i < k → 0 ≤ o i ∧ o i < 7) → ∀ h, mS o w k h < 128
  | 0, _, h => by unfold mS; omega
  | k + 1, ho, h => by
    have ih := mS_lt (w := w) (k := k) (fun i hi => ho i (by omega)) h
    have h1 := ho k (by omega)
    have h2 := pw6 (show (o k).toNat < 7 by omega)
    unfold mS
    split
    · exact Nat.or_lt_two_pow (n := 7) ih (by omega)
    · exact ih
theorem c_countOrders {n k : Nat} {o w : Nat → Int} {M : Mm} (hn : n ≤ 7) (h4 : M 41 4 = (k : Int)) (hk : k ≤ 8) (ho : ∀ i, i < k → (M 51 i = o i ∧ M 52 i = w i ∧ 0 ≤ o i ∧ o i < n ∧ 0 ≤ w i ∧ w i < n)) : S_Rows_countOrders 62 41 (n : Int) M (fun r M' => r = wT (mS o w k) n (2 ^ n - 1) ∧ (∀ h, h < n → M' 68 h = (mS o w k h : Int)) ∧ FrC (fun c => c = 67 ∨ c = 68) M M') := by
  refine e_Rows_countOrders 62 41 _ M fun K hK => w_Rows_countOrders_0 hK 62 atC_62 41 atC_41 _ M ?_
  have k22 : ∀ i, i ≤ k → ∀ M2 : Mm, (∀ h, h < n → M2 68 h = (mS o w i h : Int)) → FrC (fun c => c = 67 ∨ c = 68) M M2 → K NN RRC 22 [(0, vr 62), (1, vr 41), (2, vi (n : Int)), (3, vi (i : Int))] [] M2 := by
    refine up_ind ?_ ?_
    · intro M2 s1 s2
      have e4 : M2 41 4 = (k : Int) := by rw [s2 41 (by omega)]; exact h4
      refine w_Rows_countOrders_22 hK 62 atC_62 41 atC_41 _ _ M2 ?_
      rw [e4]
      refine ⟨by omega, by omega, fun _ => ⟨_, c_countWays (m := mS o w k) hn (fun h hh => ⟨s1 h hh, mS_lt (fun i hi => by have := ho i hi; omega) h⟩), ?_⟩, fun z => absurd (Int.le_refl _) z⟩
      rintro r M3 ⟨rfl, h3⟩
      exact ⟨rfl, fun h hh => by rw [h3 68 (by omega)]; exact s1 h hh, s2.tr (h3.wk (fun c hc => Or.inl hc))⟩
    · intro i hi ih M2 s1 s2
      have e4 : M2 41 4 = (k : Int) := by rw [s2 41 (by omega)]; exact h4
      obtain ⟨a1, a2, a3, a4, a5, a6⟩ := ho i hi
      have e11 : M2 (41 + 11) i = w i := by rw [s2 (41 + 11) (by omega)]; exact a2
      have e10 : M2 (41 + 10) i = o i := by rw [s2 (41 + 10) (by omega)]; exact a1
      refine w_Rows_countOrders_22 hK 62 atC_62 41 atC_41 _ _ M2 ?_
      rw [e4, Int.toNat_natCast, e11, e10]
      refine ⟨by omega, by omega, fun z => by omega, fun _ => ⟨by omega, by omega, by omega, by omega, ?_⟩⟩
      rintro M3 rfl
      refine ih _ (fun h hh => ?_) (s2.tr (FrC.up (c := 62 + 6) (Or.inr rfl)))
      rw [upr_eq, if_pos rfl, up1_eq]
      obtain ⟨a, ha⟩ : ∃ a : Nat, o i = (a : Int) := ⟨(o i).toNat, by omega⟩
      have hp := pw6 (show a < 7 by omega)
      have hl := mS_lt (o := o) (w := w) (k := i) (fun j (hj : j < i) => by have := ho j (by omega); omega) h
      unfold mS
      by_cases e : h = (w i).toNat
      · rw [if_pos e, if_pos e, ← e, show M2 (62 + 6) h = _ from s1 h hh, ha, shl1 (by omega), orI_nat (by omega) (by omega), Int.toNat_natCast]
      · rw [if_neg e, if_neg e]; exact s1 h hh
  have k2 : ∀ j, j ≤ n → ∀ M2 : Mm, (∀ h, h < j → M2 68 h = 0) → FrC (fun c => c = 67 ∨ c = 68) M M2 → K NN RRC 2 [(0, vr 62), (1, vr 41), (2, vi (n : Int)), (3, vi (j : Int))] [] M2 := by
    refine up_ind ?_ ?_
    · intro M2 s1 s2
      exact w_Rows_countOrders_2 hK 62 atC_62 41 atC_41 _ _ M2 ⟨by omega, by omega, fun _ => k22 0 (by omega) M2 (fun h hh => by rw [s1 h hh]; rfl) s2, fun z => absurd (Int.le_refl _) z⟩
    · intro j hj ih M2 s1 s2
      refine w_Rows_countOrders_2 hK 62 atC_62 41 atC_41 _ _ M2 ⟨by omega, by omega, fun z => by omega, fun _ => ⟨by omega, ?_⟩⟩
      rintro M3 rfl
      rw [Int.toNat_natCast]
      refine ih _ (fun h hh => ?_) (s2.tr (FrC.up (c := 62 + 6) (Or.inr rfl)))
      rw [upr_eq, if_pos rfl, up1_eq]
      by_cases e : h = j
      · rw [if_pos e]
      · rw [if_neg e]; exact s1 h (by omega)
  exact k2 0 (by omega) M (fun h hh => by omega) FrC.rf
/-- the first that may come next -/
def frs (m : Nat → Nat) (n S : Nat) : Nat → Nat
  | 0 => n
  | k + 1 => if mayB m S (n - (k + 1)) = true then n - (k + 1) else frs m n S k
theorem frs_step {m : Nat → Nat} {n S h : Nat} (hh : h < n) : frs m n S (n - h) = if mayB m S h = true then h else frs m n S (n - (h + 1)) := by
  obtain ⟨k, rfl⟩ : ∃ k, n = h + 1 + k := ⟨n - (h + 1), by omega⟩
  rw [show h + 1 + k - h = k + 1 by omega, show h + 1 + k - (h + 1) = k by omega, frs, show h + 1 + k - (k + 1) = h by omega]
theorem c_firstFree {m : Nat → Nat} {n S : Nat} {M : Mm} (hn : n ≤ 7) (hS : S < 128) (hm : ∀ h, h < n → M 68 h = (m h : Int) ∧ m h < 128) (hx : frs m n S n < n) : S_Rows_firstFree 62 (S : Int) (n : Int) M (fun r M' => r = (frs m n S n : Int) ∧ M' = M) := by
  refine e_Rows_firstFree 62 _ _ M fun K hK => w_Rows_firstFree_0 hK 62 atC_62 _ _ M ?_
  have key : ∀ h, h ≤ n → frs m n S n = frs m n S (n - h) → K NN RRC 2 [(0, vr 62), (1, vi (S : Int)), (2, vi (n : Int)), (3, vi (h : Int))] [] M := by
    refine up_ind ?_ ?_
    · intro e
      rw [Nat.sub_self] at e
      rw [e] at hx
      exact absurd hx (Nat.lt_irrefl _)
    · intro h hh ih e
      rw [frs_step hh] at e
      have hb := bitz (a := S) (k := h) (by omega) (by omega)
      have hmk := hm h hh
      refine w_Rows_firstFree_2 hK 62 atC_62 _ _ _ M ?_
      rw [Int.toNat_natCast, show M (62 + 6) h = _ from hmk.1, not_nat (by omega), andn_nat (by omega) (by omega)]
      refine ⟨by omega, by omega, fun z => by omega, fun _ => ⟨fun z => ?_, fun z => ⟨by omega, fun z2 => ?_, fun z2 => ?_⟩⟩⟩
      · refine ih ?_
        rw [if_neg (fun y => z (hb.1.mpr (may_no y)))] at e
        exact e
      · refine ih ?_
        rw [if_neg (fun y => by
          unfold mayB at y
          rw [decide_eq_false (p := adn (m h) S = 0) (by omega)] at y
          simp at y)] at e
        exact e
      · rw [if_pos (by unfold mayB; rw [hb.1.mp z, decide_eq_true (by omega)]; rfl)] at e
        exact ⟨by rw [e], rfl⟩
  exact key 0 (by omega) rfl
theorem wF_swap {m : Nat → Nat} {n : Nat} (hn : n ≤ 7) : ∀ S, S < 2 ^ n → ∀ h, h < n → mayB m S h = true → wF m n S ≠ 0 → wF m n (tg S h) ≠ 0 := by
  have h7 := pw7 hn
  refine dn_ind (fun S hS ih h hh hm h0 => ?_)
  have hnf : S ≠ 2 ^ n - 1 := fun z => by
    have := may_no hm
    rw [z, Nat.testBit_two_pow_sub_one, decide_eq_true hh] at this; cases this
  -- some h' goes on
  have ⟨h', hh', hm', h0'⟩ : ∃ h', h' < n ∧ mayB m S h' = true ∧ wF m n (tg S h') ≠ 0 := by
    apply Classical.byContradiction
    intro hc
    apply h0
    rw [wF_eq m hn hS, if_neg hnf, sm_zero (fun i hi => ?_)]
    · rfl
    · by_cases z : mayB m S i = true
      · rw [if_pos z]
        apply Classical.byContradiction
        intro y
        exact hc ⟨i, hi, z, y⟩
      · rw [if_neg z]
  by_cases e : h' = h
  · rw [← e]; exact h0'
  · have sub : ∀ a b, mayB m S a = true → mayB m S b = true → b ≠ a → mayB m (tg S a) b = true := by
      intro a b ha hb hne
      unfold mayB at hb ⊢
      rw [tg_bit, if_neg hne]
      simp only [Bool.and_eq_true, decide_eq_true_eq, adn_zero] at hb ⊢
      refine ⟨hb.1, fun i hi => ?_⟩
      rw [tg_bit]
      have := hb.2 i hi
      by_cases y : i = a
      · rw [y] at this; rw [may_no ha] at this; cases this
      · rw [if_neg y]; exact this
    have m1 := sub h' h hm' hm (fun z => e z.symm)
    have m2 := sub h h' hm hm' e
    have g := ih _ (tg_up (may_no hm')) (tg_lt hS hh') h hh m1 h0'
    have ec : tg (tg S h') h = tg (tg S h) h' := by
      unfold tg
      rw [Nat.xor_assoc, Nat.xor_assoc, Nat.xor_comm (2 ^ h')]
    rw [ec] at g
    have hl := tg_lt hS hh
    have hl2 := tg_lt hl hh'
    intro hz
    rw [wF_eq m hn hl] at hz
    -- all terms are nonnegative, one is not 0
    have nn : ∀ i, i < n → 0 ≤ (if mayB m (tg S h) i = true then wF m n (tg (tg S h) i) else 0) := by
      intro i hi
      by_cases z : mayB m (tg S h) i = true
      · rw [if_pos z]; exact (wF_bd hn (tg_lt hl hi)).1
      · rw [if_neg z]; exact Int.le_refl _
    have ge : ∀ {f : Nat → Int} {i : Nat}, ∀ k, i < k → (∀ j, j < k → 0 ≤ f j) → f i ≤ sm f k := by
      intro f i k
      induction k with
      | zero => intro hi; omega
      | succ k ihk =>
        intro hi hf
        show f i ≤ sm f k + f k
        have hk := hf k (by omega)
        by_cases y : i = k
        · have : 0 ≤ sm f k := by
            clear ihk hi y
            have : ∀ q, q ≤ k → 0 ≤ sm f q := by
              intro q
              induction q with
              | zero => intro _; exact Int.le_refl _
              | succ q ihq => intro hq; show 0 ≤ sm f q + f q; have := ihq (by omega); have := hf q (by omega); omega
            exact this k (Nat.le_refl _)
          rw [y]; omega
        · have := ihk (by omega) (fun j hj => hf j (by omega))
          omega
    have g2 := ge (f := fun i => if mayB m (tg S h) i = true then wF m n (tg (tg S h) i) else 0) (i := h') n hh' nn
    have g3 := (wF_bd (m := m) hn hl2).1
    have g4 : 0 ≤ (if tg S h = 2 ^ n - 1 then (1 : Int) else 0) := by split <;> omega
    have g5 : (if mayB m (tg S h) h' = true then wF m n (tg (tg S h) h') else 0) ≤ sm (fun i => if mayB m (tg S h) i = true then wF m n (tg (tg S h) i) else 0) n := g2
    rw [if_pos m2] at g5
    omega
theorem frs_ok {m : Nat → Nat} {n S : Nat} (hn : n ≤ 7) (hS : S < 2 ^ n) (hnf : S ≠ 2 ^ n - 1) (h0 : wF m n S ≠ 0) : frs m n S n < n ∧ mayB m S (frs m n S n) = true := by
  have key : ∀ k, k ≤ n → ((∃ h, n - k ≤ h ∧ h < n ∧ mayB m S h = true) → frs m n S k < n ∧ mayB m S (frs m n S k) = true) := by
    intro k
    induction k with
    | zero => rintro _ ⟨h, h1, h2, -⟩; omega
    | succ k ih =>
      rintro hk ⟨h, h1, h2, h3⟩
      rw [frs]
      by_cases z : mayB m S (n - (k + 1)) = true
      · rw [if_pos z]; exact ⟨by omega, z⟩
      · rw [if_neg z]
        refine ih (by omega) ⟨h, ?_, h2, h3⟩
        apply Classical.byContradiction
        intro y
        rw [show h = n - (k + 1) by omega] at h3
        exact z h3
  refine key n (Nat.le_refl _) ?_
  apply Classical.byContradiction
  intro hc
  apply h0
  rw [wF_eq m hn hS, if_neg hnf, sm_zero (fun i hi => if_neg (fun z => hc ⟨i, by omega, hi, z⟩))]
  rfl
/-- the first order, place by place -/
def fst_ (m : Nat → Nat) (n : Nat) : Nat → Nat
  | 0 => 0
  | k + 1 => tg (fst_ m n k) (frs m n (fst_ m n k) n)
theorem fst_ok {m : Nat → Nat} {n : Nat} (hn : n ≤ 7) (h0 : wF m n 0 ≠ 0) : ∀ k, k ≤ n → (fst_ m n k < 2 ^ n ∧ pcN (fst_ m n k) = k ∧ wF m n (fst_ m n k) ≠ 0)
  | 0, _ => ⟨(pw7 hn).2, by rw [fst_]; decide, h0⟩
  | k + 1, hk => by
    have ⟨h1, h2, h3⟩ := fst_ok hn h0 k (by omega)
    have h7 := pw7 hn
    have hnf : fst_ m n k ≠ 2 ^ n - 1 := fun z => by
      have := pcN_full n (by omega)
      rw [← z] at this; omega
    have ⟨h4, h5⟩ := frs_ok hn h1 hnf h3
    refine ⟨tg_lt h1 h4, ?_, wF_swap hn _ h1 _ h4 h5 h3⟩
    rw [fst_, pcN_up _ (by omega) _ (by omega) (may_no h5), h2]
theorem fst_fr {m : Nat → Nat} {n k : Nat} (hn : n ≤ 7) (h0 : wF m n 0 ≠ 0) (hk : k < n) : fst_ m n k < 2 ^ n ∧ frs m n (fst_ m n k) n < n ∧ mayB m (fst_ m n k) (frs m n (fst_ m n k) n) = true ∧ wF m n (tg (fst_ m n k) (frs m n (fst_ m n k) n)) ≠ 0 := by
  have ⟨h1, h2, h3⟩ := fst_ok hn h0 k (by omega)
  have hnf : fst_ m n k ≠ 2 ^ n - 1 := fun z => by
    have := pcN_full n (by omega)
    rw [← z] at this; omega
  have ⟨h4, h5⟩ := frs_ok hn h1 hnf h3
  exact ⟨h1, h4, h5, wF_swap hn _ h1 _ h4 h5 h3⟩
theorem c_firstOrderAt {m : Nat → Nat} {n p : Nat} {M : Mm} (hn : n ≤ 7) (hp : p < n) (hm : ∀ h, h < n → M 68 h = (m h : Int) ∧ m h < 128) (h0 : wF m n 0 ≠ 0) : S_Rows_firstOrderAt 62 (p : Int) (n : Int) M (fun r M' => r = (frs m n (fst_ m n p) n : Int) ∧ M' = M) := by
  have h7 := pw7 hn
  refine e_Rows_firstOrderAt 62 _ _ M fun K hK => w_Rows_firstOrderAt_0 hK 62 atC_62 _ _ M ?_
  have key : ∀ k, k ≤ p + 1 → K NN RRC 8 [(0, vr 62), (1, vi (p : Int)), (2, vi (n : Int)), (3, vi (fst_ m n k : Int)), (4, vi (if k = 0 then -1 else (frs m n (fst_ m n (k - 1)) n : Int))), (5, vi (k : Int))] [] M := by
    refine up_ind ?_ ?_
    · refine w_Rows_firstOrderAt_8 hK 62 atC_62 _ _ _ _ _ M ⟨by omega, by omega, fun _ => ⟨?_, rfl⟩, fun z => by omega⟩
      rw [if_neg (by omega), Nat.add_sub_cancel]
    · intro k hk ih
      have ⟨g1, g2, g3, g4⟩ := fst_fr hn h0 (show k < n by omega)
      refine w_Rows_firstOrderAt_8 hK 62 atC_62 _ _ _ _ _ M ⟨by omega, by omega, fun z => by omega, fun _ => ⟨_, c_firstFree hn (by omega) hm g2, ?_⟩⟩
      rintro r M1 ⟨rfl, rfl⟩
      refine ⟨by omega, fun _ => ?_, fun z => by omega⟩
      rw [orI_pow (by omega) (by omega) (may_no g3)]
      rw [if_neg (by omega), Nat.add_sub_cancel, fst_] at ih
      exact ih
  exact key 0 (by omega)
/-- which two to ask for -/
def qB (g : Nat → Nat → Int) (a : Nat) (p : Int × Int) : Nat → Int × Int
  | 0 => p
  | k + 1 => if g a (a + 1 + k) < (qB g a p k).1 then (g a (a + 1 + k), 8 * (a : Int) + ((a + 1 + k : Nat) : Int)) else qB g a p k
def qA (g : Nat → Nat → Int) (n : Nat) (p : Int × Int) : Nat → Int × Int
  | 0 => p
  | a + 1 => qB g a (qA g n p a) (n - (a + 1))
theorem qB_in {g : Nat → Nat → Int} {a n : Nat} {p : Int × Int} (hg : ∀ a b, a < b → b < n → 0 ≤ g a b ∧ g a b ≤ 2097152) (hp : 0 ≤ p.1 ∧ p.1 ≤ 2097152) : ∀ k, a + k < n → 0 ≤ (qB g a p k).1 ∧ (qB g a p k).1 ≤ 2097152
  | 0, _ => hp
  | k + 1, hk => by
    have ih := qB_in (a := a) hg hp k (by omega)
    have := hg a (a + 1 + k) (by omega) (by omega)
    rw [qB]
    split
    · exact this
    · exact ih
theorem qA_in {g : Nat → Nat → Int} {n : Nat} {p : Int × Int} (hg : ∀ a b, a < b → b < n → 0 ≤ g a b ∧ g a b ≤ 2097152) (hp : 0 ≤ p.1 ∧ p.1 ≤ 2097152) : ∀ k, k ≤ n → 0 ≤ (qA g n p k).1 ∧ (qA g n p k).1 ≤ 2097152
  | 0, _ => hp
  | k + 1, hk => by
    have ih := qA_in hg hp k (by omega)
    rw [qA]
    exact qB_in hg ih _ (by omega)
theorem c_greaterPart {m : Nat → Nat} {n a b : Nat} {M : Mm} {all : Int} (hn : n ≤ 7) (ha : a < n) (hb : b < n) (hm : ∀ h, h < n → M 68 h = (m h : Int) ∧ m h < 128) (hall : 0 ≤ all ∧ all ≤ 2097152) : S_Rows_greaterPart 62 (a : Int) (b : Int) all (n : Int) M (fun r M' => r = max (wT (mAdd m a b) n (2 ^ n - 1)) (all - wT (mAdd m a b) n (2 ^ n - 1)) ∧ (∀ h, h < n → M' 68 h = (m h : Int)) ∧ FrC (fun c => c = 67 ∨ c = 68) M M') := by
  have h7 := pw7 hn
  have hpa := pw6 (show a < 7 by omega)
  refine W_Rows_greaterPart 62 atC_62 _ _ _ _ M ⟨by omega, by omega, by omega, ?_⟩
  rintro M1 rfl
  rw [Int.toNat_natCast, show M (62 + 6) b = _ from (hm b hb).1, shl1 (by omega), orI_nat (by have := (hm b hb).2; omega) (by omega)]
  refine ⟨_, c_countWays (m := mAdd m a b) hn (fun h hh => ?_), ?_⟩
  · rw [upr_eq, if_pos rfl, up1_eq]
    unfold mAdd
    by_cases e : h = b
    · rw [if_pos e, if_pos e]
      exact ⟨rfl, Nat.or_lt_two_pow (n := 7) (hm b hb).2 (by omega)⟩
    · rw [if_neg e, if_neg e]; exact hm h hh
  · rintro r M2 ⟨rfl, h2⟩
    have hw := wT_in (m := mAdd m a b) (n := n) (T := 2 ^ n - 1) hn (by omega)
    refine ⟨by omega, ?_⟩
    rintro M3 rfl
    refine ⟨by omega, by omega, rfl, fun h hh => ?_, ?_⟩
    · rw [upr_eq, if_pos rfl, up1_eq]
      by_cases e : h = b
      · rw [if_pos e, e]
      · rw [if_neg e, h2 (62 + 6) (by omega), upr_eq, if_pos rfl, up1_eq, if_neg e]
        exact (hm h hh).1
    · exact ((FrC.up (c := 62 + 6) (Or.inr rfl)).tr (h2.wk (fun c hc => Or.inl hc))).tr (FrC.up (c := 62 + 6) (Or.inr rfl))
theorem c_bestQuestion {n k : Nat} {o w : Nat → Int} {M : Mm} {g : Nat → Nat → Int} (hn : n ≤ 7) (h4 : M 41 4 = (k : Int)) (hk : k ≤ 8) (ho : ∀ i, i < k → (M 51 i = o i ∧ M 52 i = w i ∧ 0 ≤ o i ∧ o i < n ∧ 0 ≤ w i ∧ w i < n)) (hg : ∀ a b, a < b → b < n → (max (wT (mAdd (mS o w k) a b) n (2 ^ n - 1)) (wT (mS o w k) n (2 ^ n - 1) - wT (mAdd (mS o w k) a b) n (2 ^ n - 1)) = g a b ∧ 0 ≤ g a b ∧ g a b ≤ 2097152)) : S_Rows_bestQuestion 62 41 (n : Int) M (fun r M' => r = (qA g n (wT (mS o w k) n (2 ^ n - 1), -1) n).2 ∧ FrC (fun c => c = 67 ∨ c = 68) M M') := by
  have h7 := pw7 hn
  have hw := wT_in (m := mS o w k) (n := n) (T := 2 ^ n - 1) hn (by omega)
  have hml := mS_lt (o := o) (w := w) (k := k) (fun i hi => by have := ho i hi; omega)
  refine e_Rows_bestQuestion 62 41 _ M fun K hK => w_Rows_bestQuestion_0 hK 62 atC_62 41 atC_41 _ M ⟨_, c_countOrders hn h4 hk ho, ?_⟩
  rintro r M1 ⟨rfl, r1, r2⟩
  have k16 : ∀ a, a ≤ n → ∀ M2 : Mm, (∀ h, h < n → M2 68 h = (mS o w k h : Int)) → FrC (fun c => c = 67 ∨ c = 68) M M2 → K NN RRC 16 [(0, vr 62), (2, vi (n : Int)), (3, vi (wT (mS o w k) n (2 ^ n - 1))), (4, vi (qA g n (wT (mS o w k) n (2 ^ n - 1), -1) a).1), (5, vi (qA g n (wT (mS o w k) n (2 ^ n - 1), -1) a).2), (6, vi (a : Int))] [] M2 := by
    refine up_ind ?_ ?_
    · intro M2 s1 s2
      exact w_Rows_bestQuestion_16 hK 62 atC_62 _ _ _ _ _ M2 ⟨by omega, by omega, fun _ => ⟨rfl, s2⟩, fun z => absurd (Int.le_refl _) z⟩
    · intro a ha ih M2 s1 s2
      have hqa := qA_in (g := g) (n := n) (p := (wT (mS o w k) n (2 ^ n - 1), -1)) (fun a b h1 h2 => (hg a b h1 h2).2) hw a (by omega)
      refine w_Rows_bestQuestion_16 hK 62 atC_62 _ _ _ _ _ M2 ⟨by omega, by omega, fun z => by omega, fun _ => ?_⟩
      have k28 : ∀ j, j ≤ n - (a + 1) → ∀ M3 : Mm, (∀ h, h < n → M3 68 h = (mS o w k h : Int)) → FrC (fun c => c = 67 ∨ c = 68) M M3 → K NN RRC 28 [(0, vr 62), (2, vi (n : Int)), (3, vi (wT (mS o w k) n (2 ^ n - 1))), (4, vi (qB g a (qA g n (wT (mS o w k) n (2 ^ n - 1), -1) a) j).1), (5, vi (qB g a (qA g n (wT (mS o w k) n (2 ^ n - 1), -1) a) j).2), (6, vi (a : Int)), (7, vi ((a + 1 + j : Nat) : Int))] [] M3 := by
        refine up_ind ?_ ?_
        · intro M3 q1 q2
          exact w_Rows_bestQuestion_28 hK 62 atC_62 _ _ _ _ _ _ M3 ⟨by omega, by omega, fun _ => ih M3 q1 q2, fun z => by omega⟩
        · intro j hj ih2 M3 q1 q2
          have hqb := qB_in (g := g) (a := a) (n := n) (fun a b h1 h2 => (hg a b h1 h2).2) hqa j (by omega)
          have hgj := hg a (a + 1 + j) (by omega) (by omega)
          refine w_Rows_bestQuestion_28 hK 62 atC_62 _ _ _ _ _ _ M3 ⟨by omega, by omega, fun z => by omega, fun _ => ⟨_, c_greaterPart hn ha (by omega) (fun h hh => ⟨q1 h hh, hml h⟩) hw, ?_⟩⟩
          rintro r M4 ⟨rfl, u1, u2⟩
          rw [hgj.1]
          refine ⟨by omega, by omega, fun z => ?_, fun z => ?_⟩
          · have := ih2 M4 u1 (q2.tr u2)
            rw [qB, if_neg (by omega)] at this
            exact this
          · have := ih2 M4 u1 (q2.tr u2)
            rw [qB, if_pos (by omega)] at this
            rw [Int.mul_comm]
            exact this
      exact k28 0 (by omega) M2 s1 s2
  exact k16 0 (by omega) M1 r1 r2
