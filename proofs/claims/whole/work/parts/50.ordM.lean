theorem m_mayFollow {m : Nat → Nat} {S h : Nat} {N : Mm} (hS : S < 128) (hh : h < 7) (hm : N 41 h = (m h : Int)) (hl : m h < 128) : S_Mod_mayFollow (S : Int) (h : Int) N (fun r N' => N' = N ∧ r = zo (mayB m S h)) := by
  have hb := bitz (a := S) (k := h) (by omega) (by omega)
  refine W_Mod_mayFollow _ _ N ?_
  rw [Int.toNat_natCast, hm, not_nat (by omega), andn_nat (by omega) (by omega)]
  unfold mayB
  refine ⟨fun z => ⟨rfl, ?_⟩, fun z => ⟨by omega, fun z2 => ⟨rfl, ?_⟩, fun z2 => ⟨rfl, ?_⟩⟩⟩
  · cases h9 : S.testBit h
    · exact absurd (hb.1.mpr h9) z
    · rfl
  · rw [decide_eq_false (p := adn (m h) S = 0) (by omega)]; simp
  · rw [hb.1.mp z, decide_eq_true (by omega)]; rfl
/-- what is in waysTo while the row S is at house k -/
def wPt (m : Nat → Nat) (n S k T : Nat) : Int := (if T = 0 then 1 else 0) + sm (fun h => if upE m T h ∧ (tg T h < S ∨ (tg T h = S ∧ h < k)) then wT m n (tg T h) else 0) n
theorem wPt_0 {m : Nat → Nat} {n T : Nat} : wPt m n 0 0 T = if T = 0 then 1 else 0 := by
  unfold wPt
  rw [sm_zero (fun h hh => if_neg (fun z => by omega)), Int.add_zero]
theorem wPt_row {m : Nat → Nat} {n S T : Nat} : wPt m n S n T = wPt m n (S + 1) 0 T := by
  unfold wPt
  congr 1
  refine sm_ext (fun h hh => ?_)
  by_cases z : upE m T h ∧ (tg T h < S ∨ (tg T h = S ∧ h < n))
  · rw [if_pos z, if_pos ⟨z.1, by omega⟩]
  · rw [if_neg z, if_neg (fun y => z ⟨y.1, by omega⟩)]
theorem wPt_all {m : Nat → Nat} {n S k T : Nat} (hT : T ≤ S) (hl : T < 128) : wPt m n S k T = wT m n T := by
  unfold wPt
  rw [wT_eq m hl]
  congr 1
  refine sm_ext (fun h hh => ?_)
  by_cases z : upE m T h
  · have := tg_dn z.1
    rw [if_pos z, if_pos ⟨z, Or.inl (by omega)⟩]
  · rw [if_neg z, if_neg (fun y => z y.1)]
theorem wPt_no {m : Nat → Nat} {n S k T : Nat} (hk : k < n) (h : T ≠ tg S k ∨ mayB m S k = false) : wPt m n S (k + 1) T = wPt m n S k T := by
  unfold wPt
  congr 1
  refine sm_ext (fun j hj => ?_)
  by_cases z : upE m T j ∧ (tg T j < S ∨ (tg T j = S ∧ j < k))
  · rw [if_pos z, if_pos ⟨z.1, by omega⟩]
  · rw [if_neg z, if_neg (fun y => ?_)]
    apply z
    refine ⟨y.1, ?_⟩
    rcases y.2 with y2 | y2
    · exact Or.inl y2
    · by_cases e : j = k
      · exfalso
        subst e
        rcases h with h | h
        · exact h (by rw [← y2.1, tg_tg])
        · have := y.1.2
          rw [y2.1, h] at this; cases this
      · exact Or.inr ⟨y2.1, by omega⟩
theorem wPt_yes {m : Nat → Nat} {n S k : Nat} (hk : k < n) (h : mayB m S k = true) : wPt m n S (k + 1) (tg S k) = wPt m n S k (tg S k) + wT m n S := by
  unfold wPt
  rw [Int.add_assoc]
  congr 1
  have hu : upE m (tg S k) k := ⟨by rw [tg_bit, if_pos rfl, may_no h]; rfl, by rw [tg_tg]; exact h⟩
  rw [sm_chg (f := fun j => if upE m (tg S k) j ∧ (tg (tg S k) j < S ∨ (tg (tg S k) j = S ∧ j < k)) then wT m n (tg (tg S k) j) else 0) (i := k) hk (fun j hj hne => ?_)]
  · show _ - (if upE m (tg S k) k ∧ (tg (tg S k) k < S ∨ (tg (tg S k) k = S ∧ k < k)) then wT m n (tg (tg S k) k) else 0) + (if upE m (tg S k) k ∧ (tg (tg S k) k < S ∨ (tg (tg S k) k = S ∧ k < k + 1)) then wT m n (tg (tg S k) k) else 0) = _
    have e9 := tg_tg S k
    rw [if_neg (fun z => by omega), if_pos ⟨hu, Or.inr ⟨e9, by omega⟩⟩, e9]
    omega
  · show (if _ then _ else _) = (if _ then _ else _)
    by_cases z : upE m (tg S k) j ∧ (tg (tg S k) j < S ∨ (tg (tg S k) j = S ∧ j < k))
    · rw [if_pos z, if_pos ⟨z.1, by omega⟩]
    · rw [if_neg z, if_neg (fun y => z ⟨y.1, by omega⟩)]
abbrev inO (c : Nat) : Prop := c = 41 ∨ c = 42 ∨ c = 43
abbrev noK (_ : Nat) : Prop := False
theorem m_laysOrders {n k : Nat} {o w : Nat → Int} {N : Mm} (hn : n ≤ 7) (hN : N 3 0 = (n : Int)) (h4 : N 31 0 = (k : Int)) (hk : k ≤ 8) (h32 : N 32 = o) (h33 : N 33 = w) (ho : ∀ i, i < k → (0 ≤ o i ∧ o i < n ∧ 0 ≤ w i ∧ w i < n)) : S_Mod_laysOrders N (fun r N' => r = wT (mS o w k) n (2 ^ n - 1) ∧ (∀ h, h < 7 → N' 41 h = (mS o w k h : Int)) ∧ (∀ S, S < 2 ^ n → N' 42 S = wT (mS o w k) n S) ∧ (∀ S, S < 2 ^ n → N' 43 S = wF (mS o w k) n S) ∧ FrM inO noK N N') := by
  have h7 := pw7 hn
  have hml := mS_lt (o := o) (w := w) (k := k) (fun i hi => by have := ho i hi; omega)
  refine e_Mod_laysOrders N fun K hK => w_Mod_laysOrders_0 hK N ?_
  rw [hN]
  -- waysFrom
  have k162 : ∀ S, S ≤ 2 ^ n → ∀ N2 : Mm, (∀ h, h < 7 → N2 41 h = (mS o w k h : Int)) → (∀ T, T < 2 ^ n → N2 42 T = wT (mS o w k) n T) → (∀ T, S ≤ T → T < 2 ^ n → N2 43 T = wF (mS o w k) n T) → FrM inO noK N N2 → K NM RRM 162 [(0, vr 1), (1, vi (n : Int)), (2, vi (((2 ^ n : Nat) : Int) - 1)), (3, vi ((S : Int) - 1))] [] N2 := by
    intro S
    induction S with
    | zero =>
      intro _ N2 s1 s2 s3 s4
      refine w_Mod_laysOrders_162 hK _ _ _ N2 ⟨by omega, fun _ => ⟨by omega, ?_, s1, s2, fun T hT => s3 T (by omega) hT, s4⟩, fun z => by omega⟩
      rw [show (((2 ^ n : Nat) : Int) - 1).toNat = 2 ^ n - 1 by omega]
      exact s2 _ (by omega)
    | succ S ih =>
      intro hS N2 s1 s2 s3 s4
      rw [show ((S + 1 : Nat) : Int) - 1 = (S : Int) by omega]
      have inn : ∀ j, j ≤ n → ∀ N3 : Mm, (∀ h, h < 7 → N3 41 h = (mS o w k h : Int)) → (∀ T, T < 2 ^ n → N3 42 T = wT (mS o w k) n T) → (∀ T, S + 1 ≤ T → T < 2 ^ n → N3 43 T = wF (mS o w k) n T) → N3 43 S = (if S = 2 ^ n - 1 then 1 else 0) + sm (fun h => if mayB (mS o w k) S h = true then wF (mS o w k) n (tg S h) else 0) j → FrM inO noK N N3 → K NM RRM 185 [(0, vr 1), (1, vi (n : Int)), (2, vi (((2 ^ n : Nat) : Int) - 1)), (3, vi (S : Int)), (4, vi (j : Int))] [] N3 := by
        refine up_ind ?_ ?_
        · intro N3 q1 q2 q3 q4 q5
          refine w_Mod_laysOrders_185 hK _ _ _ _ N3 ⟨by omega, by omega, fun _ => ?_, fun z => absurd (Int.le_refl _) z⟩
          refine ih (by omega) N3 q1 q2 (fun T h1 h2 => ?_) q5
          by_cases e : T = S
          · rw [e, q4, wF_eq _ hn (by omega)]
          · exact q3 T (by omega) h2
        · intro j hj ih2 N3 q1 q2 q3 q4 q5
          refine w_Mod_laysOrders_185 hK _ _ _ _ N3 ⟨by omega, by omega, fun z => by omega, fun _ => ⟨_, m_mayFollow (by omega) (by omega) (q1 j (by omega)) (hml j), ?_⟩⟩
          rintro r N4 ⟨rfl, rfl⟩
          refine ⟨zo_rng _, fun z => ?_, fun z => ?_⟩
          · refine ih2 N4 q1 q2 q3 ?_ q5
            rw [q4]
            show _ = _ + (sm _ j + (if mayB (mS o w k) S j = true then wF (mS o w k) n (tg S j) else 0))
            rw [if_neg (show ¬ mayB (mS o w k) S j = true by rw [zo_0 z]; exact Bool.false_ne_true), Int.add_zero]
          · have hy := zo_ne z
            have hu := tg_up (may_no hy)
            have hl := tg_lt (n := n) (show S < 2 ^ n by omega) hj
            rw [orI_pow (by omega) (by omega) (may_no hy)]
            refine ⟨by omega, by omega, by omega, ?_⟩
            rintro N5 rfl
            rw [Int.toNat_natCast, Int.toNat_natCast]
            refine ih2 _ (fun h hh => by rw [upr_eq, if_neg (by omega)]; exact q1 h hh) (fun T hT => by rw [upr_eq, if_neg (by omega)]; exact q2 T hT) (fun T h1 h2 => by rw [upr_eq, if_pos rfl, up1_eq, if_neg (by omega)]; exact q3 T h1 h2) ?_ (q5.tr (FrM.up (by omega) (by omega)))
            rw [upr_eq, if_pos rfl, up1_eq, if_pos rfl, q4, q3 _ (by omega) hl, Int.add_assoc]
            show _ = _ + (sm _ j + (if mayB (mS o w k) S j = true then wF (mS o w k) n (tg S j) else 0))
            rw [if_pos hy]
      refine w_Mod_laysOrders_162 hK _ _ _ N2 ⟨by omega, fun z => by omega, fun _ => ⟨by omega, by omega, fun z => ⟨by omega, ?_⟩, fun z => ⟨by omega, ?_⟩⟩⟩
      · rintro N3 rfl
        rw [Int.toNat_natCast]
        refine inn 0 (by omega) _ (fun h hh => by rw [upr_eq, if_neg (by omega)]; exact s1 h hh) (fun T hT => by rw [upr_eq, if_neg (by omega)]; exact s2 T hT) (fun T h1 h2 => by rw [upr_eq, if_pos rfl, up1_eq, if_neg (by omega)]; exact s3 T h1 h2) ?_ (s4.tr (FrM.up (by omega) (by omega)))
        rw [upr_eq, if_pos rfl, up1_eq, if_pos rfl, if_neg (by omega)]; rfl
      · rintro N3 rfl
        rw [Int.toNat_natCast]
        refine inn 0 (by omega) _ (fun h hh => by rw [upr_eq, if_neg (by omega)]; exact s1 h hh) (fun T hT => by rw [upr_eq, if_neg (by omega)]; exact s2 T hT) (fun T h1 h2 => by rw [upr_eq, if_pos rfl, up1_eq, if_neg (by omega)]; exact s3 T h1 h2) ?_ (s4.tr (FrM.up (by omega) (by omega)))
        rw [upr_eq, if_pos rfl, up1_eq, if_pos rfl, if_pos (by omega)]; rfl
  -- waysTo
  have k104 : ∀ S, S ≤ 2 ^ n → ∀ N2 : Mm, (∀ h, h < 7 → N2 41 h = (mS o w k h : Int)) → (∀ T, T < 2 ^ n → N2 42 T = wPt (mS o w k) n S 0 T) → FrM inO noK N N2 → K NM RRM 104 [(0, vr 1), (1, vi (n : Int)), (2, vi (((2 ^ n : Nat) : Int) - 1)), (3, vi (S : Int))] [] N2 := by
    refine up_ind ?_ ?_
    · intro N2 s1 s2 s3
      exact w_Mod_laysOrders_104 hK _ _ _ N2 ⟨by omega, by omega, fun _ => k162 _ (Nat.le_refl _) N2 s1 (fun T hT => by rw [s2 T hT, wPt_all (by omega) (by omega)]) (fun T h1 h2 => by omega) s3, fun z => by omega⟩
    · intro S hS ih N2 s1 s2 s3
      have inn : ∀ j, j ≤ n → ∀ N3 : Mm, (∀ h, h < 7 → N3 41 h = (mS o w k h : Int)) → (∀ T, T < 2 ^ n → N3 42 T = wPt (mS o w k) n S j T) → FrM inO noK N N3 → K NM RRM 112 [(0, vr 1), (1, vi (n : Int)), (2, vi (((2 ^ n : Nat) : Int) - 1)), (3, vi (S : Int)), (4, vi (j : Int))] [] N3 := by
        refine up_ind ?_ ?_
        · intro N3 q1 q2 q3
          exact w_Mod_laysOrders_112 hK _ _ _ _ N3 ⟨by omega, by omega, fun _ => ih N3 q1 (fun T hT => by rw [q2 T hT, wPt_row]) q3, fun z => absurd (Int.le_refl _) z⟩
        · intro j hj ih2 N3 q1 q2 q3
          refine w_Mod_laysOrders_112 hK _ _ _ _ N3 ⟨by omega, by omega, fun z => by omega, fun _ => ⟨_, m_mayFollow (by omega) (by omega) (q1 j (by omega)) (hml j), ?_⟩⟩
          rintro r N4 ⟨rfl, rfl⟩
          refine ⟨zo_rng _, fun z => ?_, fun z => ?_⟩
          · exact ih2 N4 q1 (fun T hT => by rw [q2 T hT, wPt_no hj (Or.inr (zo_0 z))]) q3
          · have hy := zo_ne z
            have hl := tg_lt (n := n) (show S < 2 ^ n by omega) hj
            rw [orI_pow (by omega) (by omega) (may_no hy)]
            refine ⟨by omega, by omega, by omega, ?_⟩
            rintro N5 rfl
            rw [Int.toNat_natCast, Int.toNat_natCast]
            refine ih2 _ (fun h hh => by rw [upr_eq, if_neg (by omega)]; exact q1 h hh) (fun T hT => ?_) (q3.tr (FrM.up (by omega) (by omega)))
            rw [upr_eq, if_pos rfl, up1_eq]
            by_cases e : T = tg S j
            · rw [if_pos e, e, wPt_yes hj hy, q2 _ hl, q2 S (by omega), wPt_all (Nat.le_refl _) (by omega)]
            · rw [if_neg e, q2 T hT, wPt_no hj (Or.inl e)]
      exact w_Mod_laysOrders_104 hK _ _ _ N2 ⟨by omega, by omega, fun z => by omega, fun _ => inn 0 (by omega) N2 s1 s2 s3⟩
  have k76 : ∀ S, S ≤ 2 ^ n → ∀ N2 : Mm, (∀ h, h < 7 → N2 41 h = (mS o w k h : Int)) → (∀ T, T < S → N2 42 T = if T = 0 then 1 else 0) → FrM inO noK N N2 → K NM RRM 76 [(0, vr 1), (1, vi (n : Int)), (2, vi (((2 ^ n : Nat) : Int) - 1)), (3, vi (S : Int))] [] N2 := by
    refine up_ind ?_ ?_
    · intro N2 s1 s2 s3
      exact w_Mod_laysOrders_76 hK _ _ _ N2 ⟨by omega, by omega, fun _ => k104 0 (by omega) N2 s1 (fun T hT => by rw [s2 T hT, wPt_0]) s3, fun z => by omega⟩
    · intro S hS ih N2 s1 s2 s3
      refine w_Mod_laysOrders_76 hK _ _ _ N2 ⟨by omega, by omega, fun z => by omega, fun _ => ⟨by omega, fun z => ⟨by omega, ?_⟩, fun z => ⟨by omega, ?_⟩⟩⟩
      · rintro N3 rfl
        rw [Int.toNat_natCast]
        refine ih _ (fun h hh => by rw [upr_eq, if_neg (by omega)]; exact s1 h hh) (fun T hT => ?_) (s3.tr (FrM.up (by omega) (by omega)))
        rw [upr_eq, if_pos rfl, up1_eq]
        by_cases e : T = S
        · rw [if_pos e, if_neg (by omega)]
        · rw [if_neg e]; exact s2 T (by omega)
      · rintro N3 rfl
        rw [Int.toNat_natCast]
        refine ih _ (fun h hh => by rw [upr_eq, if_neg (by omega)]; exact s1 h hh) (fun T hT => ?_) (s3.tr (FrM.up (by omega) (by omega)))
        rw [upr_eq, if_pos rfl, up1_eq]
        by_cases e : T = S
        · rw [if_pos e, if_pos (by omega)]
        · rw [if_neg e]; exact s2 T (by omega)
  have k30 : ∀ i, i ≤ k → ∀ N2 : Mm, (∀ h, h < 7 → N2 41 h = (mS o w i h : Int)) → FrM inO noK N N2 → K NM RRM 30 [(0, vr 1), (1, vi (n : Int)), (2, vi (i : Int))] [] N2 := by
    refine up_ind ?_ ?_
    · intro N2 s1 s2
      refine w_Mod_laysOrders_30 hK _ _ N2 ?_
      rw [s2.1 31 (by omega) (by omega), h4, shl1 (by omega)]
      exact ⟨by omega, by omega, fun _ => k76 0 (by omega) N2 s1 (fun T hT => by omega) s2, fun z => absurd (Int.le_refl _) z⟩
    · intro i hi ih N2 s1 s2
      obtain ⟨a3, a4, a5, a6⟩ := ho i hi
      refine w_Mod_laysOrders_30 hK _ _ N2 ?_
      rw [s2.1 31 (by omega) (by omega), h4, s2.1 32 (by omega) (by omega), h32, s2.1 33 (by omega) (by omega), h33, Int.toNat_natCast]
      refine ⟨by omega, by omega, fun z => by omega, fun _ => ⟨by omega, by omega, by omega, by omega, ?_⟩⟩
      rintro N3 rfl
      refine ih _ (fun h hh => ?_) (s2.tr (FrM.up (by omega) (by omega)))
      rw [upr_eq, if_pos rfl, up1_eq]
      obtain ⟨a, ha⟩ : ∃ a : Nat, o i = (a : Int) := ⟨(o i).toNat, by omega⟩
      have hp := pw6 (show a < 7 by omega)
      have hl := mS_lt (o := o) (w := w) (k := i) (fun j (hj : j < i) => by have := ho j (by omega); omega) h
      rw [mS]
      by_cases e : h = (w i).toNat
      · rw [if_pos e, if_pos e, ← e, s1 h hh, ha, shl1 (by omega), orI_nat (by omega) (by omega), Int.toNat_natCast]
      · rw [if_neg e, if_neg e]; exact s1 h hh
  have k9 : ∀ j, j ≤ 7 → ∀ N2 : Mm, (∀ h, h < j → N2 41 h = 0) → FrM inO noK N N2 → K NM RRM 9 [(0, vr 1), (1, vi (n : Int)), (2, vi (j : Int))] [] N2 := by
    refine up_ind ?_ ?_
    · intro N2 s1 s2
      exact w_Mod_laysOrders_9 hK _ _ N2 ⟨by omega, fun _ => k30 0 (by omega) N2 (fun h hh => by rw [s1 h hh]; rfl) s2, fun z => by omega⟩
    · intro j hj ih N2 s1 s2
      refine w_Mod_laysOrders_9 hK _ _ N2 ⟨by omega, fun z => by omega, fun _ => ⟨by omega, ?_⟩⟩
      rintro N3 rfl
      rw [Int.toNat_natCast]
      refine ih _ (fun h hh => ?_) (s2.tr (FrM.up (by omega) (by omega)))
      rw [upr_eq, if_pos rfl, up1_eq]
      by_cases e : h = j
      · rw [if_pos e]
      · rw [if_neg e]; exact s1 h (by omega)
  exact k9 0 (by omega) N (fun h hh => by omega) FrM.rf
/-- how many have o ahead of h -/
def ahF (m : Nat → Nat) (n o h S : Nat) : Int := if mayB m S h = true ∧ S.testBit o = true then wT m n S * wF m n (tg S h) else 0
theorem ah_tot {m : Nat → Nat} {n b : Nat} (hn : n ≤ 7) (hb : b < n) : sm (fun S => if mayB m S b = true then wT m n S * wF m n (tg S b) else 0) (2 ^ n) = wF m n 0 := by
  have h7 := pw7 hn
  have := resolve n (mayB m) (mayB (mAdd m b b)) (fun S h z => may_no z) (fun S h z => may_addp z) (wT m n) (wF (mAdd m b b) n) (fun T hT => wT_eq m (by omega)) (fun S hS => wF_eq _ hn hS)
  rw [wF_self hn hb 0 (by omega) (Nat.zero_testBit _), wT_full hn, Int.zero_add] at this
  rw [this]
  refine sm_ext (fun S hS => ?_)
  by_cases z : mayB m S b = true
  · have hf := may_no z
    rw [if_pos z, sm_one (i := b) hb (fun j hj hne => if_neg (fun y => by
      have y2 := y.2
      rw [may_add, y.1] at y2
      simp [hne] at y2)), if_pos ⟨z, by rw [may_add, z, hf]; simp⟩]
    rw [wF_in hn _ (tg_lt hS hb) (Or.inl (by rw [tg_bit, if_pos rfl, hf]; rfl))]
  · rw [if_neg z]
    refine (sm_zero (fun j hj => if_neg (fun y => ?_))).symm
    have y2 := y.2
    rw [may_add, y.1] at y2
    by_cases e : j = b
    · rw [e] at y; exact z y.1
    · simp [e] at y2
theorem ah_eq {m : Nat → Nat} {n a b : Nat} (hn : n ≤ 7) (ha : a < n) (hb : b < n) (hab : a ≠ b) : sm (ahF m n a b) (2 ^ n) = wF (mAdd m a b) n 0 := by
  have h7 := pw7 hn
  have := resolve n (mayB m) (mayB (mAdd m a b)) (fun S h z => may_no z) (fun S h z => may_addp z) (wT m n) (wF (mAdd m a b) n) (fun T hT => wT_eq m (by omega)) (fun S hS => wF_eq _ hn hS)
  rw [wT_full hn] at this
  have e1 : sm (fun S => sm (fun h => if mayB m S h = true ∧ mayB (mAdd m a b) S h = false then wT m n S * wF (mAdd m a b) n (tg S h) else 0) n) (2 ^ n) + sm (ahF m n a b) (2 ^ n) = sm (fun S => if mayB m S b = true then wT m n S * wF m n (tg S b) else 0) (2 ^ n) := by
    rw [← sm_add]
    refine sm_ext (fun S hS => ?_)
    show sm _ n + ahF m n a b S = _
    unfold ahF
    by_cases z : mayB m S b = true
    · have hf := may_no z
      rw [if_pos z]
      cases c : S.testBit a
      · rw [if_neg (fun y => by cases y.2), Int.add_zero, sm_one (i := b) hb (fun j hj hne => if_neg (fun y => by
          have y2 := y.2
          rw [may_add, y.1] at y2
          simp [hne] at y2)), if_pos ⟨z, by rw [may_add, z, c]; simp⟩]
        rw [wF_in hn _ (tg_lt hS hb) (Or.inr (by rw [tg_bit, if_pos rfl, hf]; rfl))]
      · rw [if_pos ⟨z, rfl⟩, sm_zero (fun j hj => if_neg (fun y => by
          have y2 := y.2
          rw [may_add, y.1, c] at y2
          simp at y2)), Int.zero_add]
    · rw [if_neg z, if_neg (fun y => z y.1), Int.add_zero]
      refine sm_zero (fun j hj => if_neg (fun y => ?_))
      have y2 := y.2
      rw [may_add, y.1] at y2
      by_cases e : j = b
      · rw [e] at y; exact z y.1
      · simp [e] at y2
  rw [ah_tot hn hb] at e1
  omega
theorem ahF_bit {m : Nat → Nat} {n o h S : Nat} (hm : mayB m S h = true) : ahF m n o h S = if S.testBit o = true then wT m n S * wF m n (tg S h) else 0 := by
  unfold ahF
  by_cases z : S.testBit o = true
  · rw [if_pos ⟨hm, z⟩, if_pos z]
  · rw [if_neg (fun y => z y.2), if_neg z]
theorem m_laysAheads {m : Nat → Nat} {n : Nat} {N : Mm} (hn : n ≤ 7) (hN : N 3 0 = (n : Int)) (hm : ∀ h, h < 7 → N 41 h = (m h : Int) ∧ m h < 128) (h42 : ∀ S, S < 2 ^ n → N 42 S = wT m n S) (h43 : ∀ S, S < 2 ^ n → N 43 S = wF m n S) : S_Mod_laysAheads N (fun N' => (∀ o h, o < n → h < n → N' 44 (7 * o + h) = sm (ahF m n o h) (2 ^ n)) ∧ FrM (fun c => c = 44) noK N N') := by
  have h7 := pw7 hn
  refine e_Mod_laysAheads N fun K hK => w_Mod_laysAheads_0 hK N ?_
  have k23 : ∀ S, S ≤ 2 ^ n → ∀ N2 : Mm, (∀ o h, o < n → h < n → N2 44 (7 * o + h) = sm (ahF m n o h) S) → FrM (fun c => c = 44) noK N N2 → K NM RRM 23 [(0, vr 1), (1, vi (S : Int))] [] N2 := by
    refine up_ind ?_ ?_
    · intro N2 s1 s2
      refine w_Mod_laysAheads_23 hK _ N2 ?_
      rw [s2.1 3 (by omega) (by omega), hN, shl1 (by omega)]
      exact ⟨by omega, fun _ => ⟨s1, s2⟩, fun z => absurd (Int.le_refl _) z⟩
    · intro S hS ih N2 s1 s2
      have k37 : ∀ j, j ≤ n → ∀ N3 : Mm, (∀ o h, o < n → h < n → N3 44 (7 * o + h) = sm (ahF m n o h) (if h < j then S + 1 else S)) → FrM (fun c => c = 44) noK N N3 → K NM RRM 37 [(0, vr 1), (1, vi (S : Int)), (2, vi (j : Int))] [] N3 := by
        refine up_ind ?_ ?_
        · intro N3 q1 q2
          refine w_Mod_laysAheads_37 hK _ _ N3 ?_
          rw [q2.1 3 (by omega) (by omega), hN]
          exact ⟨by omega, by omega, fun _ => ih N3 (fun o h h1 h2 => by rw [q1 o h h1 h2, if_pos h2]) q2, fun z => absurd (Int.le_refl _) z⟩
        · intro j hj ih2 N3 q1 q2
          refine w_Mod_laysAheads_37 hK _ _ N3 ?_
          rw [q2.1 3 (by omega) (by omega), hN]
          refine ⟨by omega, by omega, fun z => by omega, fun _ => ⟨_, m_mayFollow (m := m) (by omega) (by omega) (by rw [q2.1 41 (by omega) (by omega)]; exact (hm j (by omega)).1) (hm j (by omega)).2, ?_⟩⟩
          rintro r N4 ⟨rfl, rfl⟩
          refine ⟨zo_rng _, fun z => ?_, fun z => ?_⟩
          · have hy := zo_ne z
            have hl := tg_lt (n := n) (show S < 2 ^ n by omega) hj
            rw [orI_pow (by omega) (by omega) (may_no hy), Int.toNat_natCast, Int.toNat_natCast, q2.1 42 (by omega) (by omega), h42 S (by omega), q2.1 43 (by omega) (by omega), h43 _ hl]
            refine ⟨by omega, by omega, ?_⟩
            have k80 : ∀ i, i ≤ n → ∀ N5 : Mm, (∀ o h, o < n → h < n → N5 44 (7 * o + h) = sm (ahF m n o h) (if h < j ∨ (h = j ∧ o < i) then S + 1 else S)) → FrM (fun c => c = 44) noK N N5 → K NM RRM 80 [(0, vr 1), (1, vi (S : Int)), (2, vi (j : Int)), (3, vi (wT m n S * wF m n (tg S j))), (4, vi (i : Int))] [] N5 := by
              refine up_ind ?_ ?_
              · intro N5 u1 u2
                refine w_Mod_laysAheads_80 hK _ _ _ _ N5 ?_
                rw [u2.1 3 (by omega) (by omega), hN]
                refine ⟨by omega, by omega, fun _ => ih2 N5 (fun o h h1 h2 => ?_) u2, fun z => absurd (Int.le_refl _) z⟩
                rw [u1 o h h1 h2]
                by_cases e : h < j + 1
                · rw [if_pos e, if_pos (by omega)]
                · rw [if_neg e, if_neg (by omega)]
              · intro i hi ih3 N5 u1 u2
                have hb := bitz (a := S) (k := i) (by omega) (by omega)
                have e7 : (7 * (i : Int) + (j : Int)).toNat = 7 * i + j := by omega
                have fin : ∀ v : Int, v = (if S.testBit i = true then wT m n S * wF m n (tg S j) else 0) → ∀ N6 : Mm, N6 = upr N5 44 (up1 (N5 44) (7 * (i : Int) + (j : Int)).toNat (N5 44 (7 * (i : Int) + (j : Int)).toNat + v)) → K NM RRM 80 [(0, vr 1), (1, vi (S : Int)), (2, vi (j : Int)), (3, vi (wT m n S * wF m n (tg S j))), (4, vi ((i : Int) + 1))] [] N6 := by
                  rintro v hv N6 rfl
                  rw [e7]
                  refine ih3 _ (fun o h h1 h2 => ?_) (u2.tr (FrM.up rfl (by omega)))
                  rw [upr_eq, if_pos rfl, up1_eq]
                  by_cases e : 7 * o + h = 7 * i + j
                  · have eo : o = i := by omega
                    have eh : h = j := by omega
                    subst eo; subst eh
                    rw [if_pos rfl, u1 o h h1 h2, if_neg (by omega), if_pos (by omega), hv]
                    show _ = sm _ S + ahF m n o h S
                    rw [ahF_bit hy]
                  · rw [if_neg e, u1 o h h1 h2]
                    by_cases e2 : h < j ∨ (h = j ∧ o < i)
                    · rw [if_pos e2, if_pos (by omega)]
                    · rw [if_neg e2, if_neg (fun y => ?_)]
                      rcases y with y | y
                      · exact e2 (Or.inl y)
                      · exact e (by omega)
                refine w_Mod_laysAheads_80 hK _ _ _ _ N5 ?_
                rw [u2.1 3 (by omega) (by omega), hN]
                refine ⟨by omega, by omega, fun z => by omega, fun _ => ⟨by omega, fun z => ⟨by omega, fin 0 ?_⟩, fun z => ⟨by omega, fin _ ?_⟩⟩⟩
                · rw [if_neg (fun y => z (hb.2.mpr y))]
                · rw [if_pos (hb.2.mp z)]
            refine k80 0 (by omega) N4 (fun o h h1 h2 => ?_) q2
            rw [q1 o h h1 h2]
            by_cases e : h < j
            · rw [if_pos e, if_pos (by omega)]
            · rw [if_neg e, if_neg (by omega)]
          · refine ih2 N4 (fun o h h1 h2 => ?_) q2
            rw [q1 o h h1 h2]
            by_cases e : h < j
            · rw [if_pos e, if_pos (by omega)]
            · rw [if_neg e]
              by_cases e2 : h = j
              · rw [if_pos (by omega)]
                show _ = sm _ S + ahF m n o h S
                unfold ahF
                rw [e2, if_neg (fun y => by rw [zo_0 z] at y; cases y.1), Int.add_zero]
              · rw [if_neg (by omega)]
      refine w_Mod_laysAheads_23 hK _ N2 ?_
      rw [s2.1 3 (by omega) (by omega), hN, shl1 (by omega)]
      refine ⟨by omega, fun z => by omega, fun _ => k37 0 (by omega) N2 (fun o h h1 h2 => by rw [s1 o h h1 h2, if_neg (by omega)]) s2⟩
  have k2 : ∀ j, j ≤ 49 → ∀ N2 : Mm, (∀ h, h < j → N2 44 h = 0) → FrM (fun c => c = 44) noK N N2 → K NM RRM 2 [(0, vr 1), (1, vi (j : Int))] [] N2 := by
    refine up_ind ?_ ?_
    · intro N2 s1 s2
      exact w_Mod_laysAheads_2 hK _ N2 ⟨by omega, fun _ => k23 0 (by omega) N2 (fun o h h1 h2 => by rw [s1 _ (by omega)]; rfl) s2, fun z => by omega⟩
    · intro j hj ih N2 s1 s2
      refine w_Mod_laysAheads_2 hK _ N2 ⟨by omega, fun z => by omega, fun _ => ⟨by omega, ?_⟩⟩
      rintro N3 rfl
      rw [Int.toNat_natCast]
      refine ih _ (fun h hh => ?_) (s2.tr (FrM.up rfl (by omega)))
      rw [upr_eq, if_pos rfl, up1_eq]
      by_cases e : h = j
      · rw [if_pos e]
      · rw [if_neg e]; exact s1 h (by omega)
  exact k2 0 (by omega) N (fun h hh => by omega) FrM.rf
/-- the greater part, both ways of counting -/
def gPt (m : Nat → Nat) (n a b : Nat) : Int := max (wF (mAdd m a b) n 0) (wF (mAdd m b a) n 0)
theorem gPt_in {m : Nat → Nat} {n a b : Nat} (hn : n ≤ 7) : 0 ≤ gPt m n a b ∧ gPt m n a b ≤ 2097152 := by
  have h7 := pw7 hn
  have h1 := wF_bd (m := mAdd m a b) (n := n) (S := 0) hn (by omega)
  have h2 := wF_bd (m := mAdd m b a) (n := n) (S := 0) hn (by omega)
  unfold gPt
  omega
theorem gPt_c {m : Nat → Nat} {n a b : Nat} (hn : n ≤ 7) (hab : a < b) (hb : b < n) : max (wT (mAdd m a b) n (2 ^ n - 1)) (wT m n (2 ^ n - 1) - wT (mAdd m a b) n (2 ^ n - 1)) = gPt m n a b := by
  have h7 := pw7 hn
  have := wF_two (m := m) (n := n) (a := a) (b := b) hn (by omega) hb (by omega) 0 (by omega) (Nat.zero_testBit _) (Nat.zero_testBit _)
  rw [wT_full hn, wT_full hn, this]
  unfold gPt
  congr 1
  omega
theorem c_orders {t : TT} {tb B : Nat} {M N : Mm} (h : Sim t tb B M N) : S_Main_orders M (PC tb M (wT (mS (N 32) (N 33) (N 31 0).toNat) (tn t) (2 ^ tn t - 1))) := by
  obtain ⟨hW, hT, hS, hN, hP, hY, ⟨-, k, k1, k2, k3, k4⟩, -⟩ := h
  refine W_Main_orders M ⟨tb, hT.2.1, at_tb hT.1, ?_⟩
  rw [hT.2.2.2.1.1.1]
  refine ⟨_, c_countOrders (o := N 32) (w := N 33) hW.1 k1 k3 (fun i hi => ?_), ?_⟩
  · have := k4 i hi
    rw [show 8 * 0 + i = i by omega] at this
    rw [← this.1, ← this.2.1]
    exact ⟨rfl, rfl, this.2.2⟩
  · rintro r M1 ⟨rfl, -, h1⟩
    exact ⟨by rw [k2, Int.toNat_natCast], h1.wk (fun c hc => by omega)⟩
theorem m_orders {t : TT} {tb B : Nat} {M N : Mm} (h : Sim t tb B M N) : S_Mod_orders N (PN N (wT (mS (N 32) (N 33) (N 31 0).toNat) (tn t) (2 ^ tn t - 1))) := by
  obtain ⟨hW, hT, hS, hN, hP, hY, ⟨-, k, k1, k2, k3, k4⟩, -⟩ := h
  refine W_Mod_orders N ?_
  rintro N1 rfl
  have hT1 := hT.2.2.2.2.1.thr
  refine ⟨_, m_laysOrders (k := k) (o := N 32) (w := N 33) hW.1 hT1.1.1 (by rw [upr_eq, if_neg (by omega)]; exact k2) k3 (by rw [upr_eq, if_neg (by omega)]) (by rw [upr_eq, if_neg (by omega)]) (fun i hi => ?_), ?_⟩
  · have := k4 i hi
    rw [show 8 * 0 + i = i by omega] at this
    omega
  · rintro r N2 ⟨rfl, -, -, -, h2⟩
    exact ⟨by rw [k2, Int.toNat_natCast], thrM.tr (h2.wk (fun c hc => by omega) (fun _ z => z.elim)), fun i _ => by rw [h2.1 34 (by omega) (by omega), s34]⟩
theorem op_orders {t : TT} {tb B : Nat} {M N : Mm} (h : Sim t tb B M N) : Op S_Main_orders S_Mod_orders B M N := Op.ask h (c_orders h) (m_orders h)
def vFirst (t : TT) (m : Nat → Nat) (x : Int) : Int := if (0 ≤ x ∧ x < tn t) ∧ wF m (tn t) 0 ≠ 0 then (frs m (tn t) (fst_ m (tn t) x.toNat) (tn t) : Int) else -1
theorem c_first {t : TT} {tb B : Nat} {M N : Mm} {x : Int} (hx : rng x) (h : Sim t tb B M N) : S_Main_first x M (PC tb M (vFirst t (mS (N 32) (N 33) (N 31 0).toNat) x)) := by
  obtain ⟨hW, hT, hS, hN, hP, hY, ⟨-, k, k1, k2, k3, k4⟩, -⟩ := h
  have hn := hW.1
  have h7 := pw7 hn
  have ho : ∀ i, i < k → (M 51 i = N 32 i ∧ M 52 i = N 33 i ∧ 0 ≤ N 32 i ∧ N 32 i < tn t ∧ 0 ≤ N 33 i ∧ N 33 i < tn t) := fun i hi => by
    have := k4 i hi
    rw [show 8 * 0 + i = i by omega] at this
    rw [← this.1, ← this.2.1]
    exact ⟨rfl, rfl, this.2.2⟩
  rw [k2, Int.toNat_natCast]
  refine W_Main_first _ M ⟨_, c_isHouse hx hT.1 hT.2.1 hT.2.2.2.1 hW, ?_⟩
  rintro r M1 ⟨rfl, rfl⟩
  refine ⟨zo_rng _, fun q => ⟨?_, FrC.rf⟩, fun q => ⟨tb, hT.2.1, at_tb hT.1, ?_⟩⟩
  · have := zo_0 q
    unfold vFirst; rw [if_neg (fun z => by simp [z.1.1, z.1.2] at this)]
  · have q2 : 0 ≤ x ∧ x < tn t := by simpa using zo_ne q
    obtain ⟨p, rfl⟩ : ∃ p : Nat, x = (p : Int) := ⟨x.toNat, by omega⟩
    rw [hT.2.2.2.1.1.1]
    refine ⟨_, c_countOrders (o := N 32) (w := N 33) hn k1 k3 ho, ?_⟩
    rintro r M2 ⟨rfl, r1, r2⟩
    have hw := wT_in (m := mS (N 32) (N 33) k) (n := tn t) (T := 2 ^ tn t - 1) hn (by omega)
    refine ⟨by omega, fun q3 => ⟨tb, by rw [r2 1 (by omega)]; exact hT.2.1, at_tb hT.1, ?_⟩, fun q3 => ⟨?_, r2.wk (fun c hc => by omega)⟩⟩
    · rw [r2 tb (by have := hT.1; omega), hT.2.2.2.1.1.1]
      rw [wT_full hn] at q3
      refine ⟨_, c_firstOrderAt (m := mS (N 32) (N 33) k) hn (by omega) (fun h hh => ⟨r1 h hh, mS_lt (fun i hi => by have := ho i hi; omega) h⟩) q3, ?_⟩
      rintro r M3 ⟨rfl, rfl⟩
      refine ⟨?_, r2.wk (fun c hc => by omega)⟩
      unfold vFirst; rw [if_pos ⟨q2, q3⟩, Int.toNat_natCast]
    · rw [wT_full hn] at q3
      unfold vFirst; rw [if_neg (fun z => z.2 q3)]
theorem m_first {t : TT} {tb B : Nat} {M N : Mm} {x : Int} (hx : rng x) (h : Sim t tb B M N) : S_Mod_first x N (PN N (vFirst t (mS (N 32) (N 33) (N 31 0).toNat) x)) := by
  obtain ⟨hW, hT, hS, hN, hP, hY, ⟨-, k, k1, k2, k3, k4⟩, -⟩ := h
  have hn := hW.1
  have h7 := pw7 hn
  have ho : ∀ i, i < k → (0 ≤ N 32 i ∧ N 32 i < tn t ∧ 0 ≤ N 33 i ∧ N 33 i < tn t) := fun i hi => by
    have := k4 i hi
    rw [show 8 * 0 + i = i by omega] at this
    omega
  have hml := mS_lt (o := N 32) (w := N 33) (k := k) (fun i hi => by have := ho i hi; omega)
  rw [k2, Int.toNat_natCast]
  refine e_Mod_first _ N fun K hK => w_Mod_first_0 hK _ N ?_
  rintro N1 rfl
  have hT1 := hT.2.2.2.2.1.thr
  refine ⟨_, m_isHouse hx hT1 hW, ?_⟩
  rintro r N2 ⟨rfl, rfl⟩
  refine ⟨zo_rng _, fun q => ⟨?_, thrM, fun i _ => by rw [s34]⟩, fun q => ?_⟩
  · have := zo_0 q
    unfold vFirst; rw [if_neg (fun z => by simp [z.1.1, z.1.2] at this)]
  · have q2 : 0 ≤ x ∧ x < tn t := by simpa using zo_ne q
    obtain ⟨p, rfl⟩ : ∃ p : Nat, x = (p : Int) := ⟨x.toNat, by omega⟩
    refine ⟨_, m_laysOrders (k := k) (o := N 32) (w := N 33) hn hT1.1.1 (by rw [upr_eq, if_neg (by omega)]; exact k2) k3 (by rw [upr_eq, if_neg (by omega)]) (by rw [upr_eq, if_neg (by omega)]) ho, ?_⟩
    rintro r N3 ⟨rfl, r1, r2, r3, r4⟩
    have hw := wT_in (m := mS (N 32) (N 33) k) (n := tn t) (T := 2 ^ tn t - 1) hn (by omega)
    have fin : FrM scM scQ N N3 ∧ ∀ i, i < 33 → N3 34 i = N 34 i := ⟨thrM.tr (r4.wk (fun c hc => by omega) (fun _ z => z.elim)), fun i _ => by rw [r4.1 34 (by omega) (by omega), s34]⟩
    refine ⟨by omega, fun q3 => ?_, fun q3 => ⟨?_, fin⟩⟩
    · rw [wT_full hn] at q3
      have key : ∀ j, j ≤ p + 1 → K NM RRM 29 [(0, vr 1), (1, vi (p : Int)), (2, vi (fst_ (mS (N 32) (N 33) k) (tn t) j : Int)), (3, vi (if j = 0 then -1 else (frs (mS (N 32) (N 33) k) (tn t) (fst_ (mS (N 32) (N 33) k) (tn t) (j - 1)) (tn t) : Int))), (4, vi (j : Int))] [] N3 := by
        refine up_ind ?_ ?_
        · refine w_Mod_first_29 hK _ _ _ _ N3 ⟨by omega, by omega, fun _ => ⟨?_, fin⟩, fun z => by omega⟩
          unfold vFirst
          rw [if_neg (by omega), Nat.add_sub_cancel, if_pos ⟨q2, q3⟩, Int.toNat_natCast]
        · intro j hj ih
          have ⟨g1, g2, g3, g4⟩ := fst_fr hn q3 (show j < tn t by omega)
          rw [if_neg (by omega), Nat.add_sub_cancel, fst_] at ih
          refine w_Mod_first_29 hK _ _ _ _ N3 ⟨by omega, by omega, fun z => by omega, fun _ => ?_⟩
          have inn : ∀ i, i ≤ tn t → frs (mS (N 32) (N 33) k) (tn t) (fst_ (mS (N 32) (N 33) k) (tn t) j) (tn t) = frs (mS (N 32) (N 33) k) (tn t) (fst_ (mS (N 32) (N 33) k) (tn t) j) (tn t - i) → K NM RRM 37 [(0, vr 1), (1, vi (p : Int)), (2, vi (fst_ (mS (N 32) (N 33) k) (tn t) j : Int)), (3, vi (i : Int)), (4, vi (j : Int))] [] N3 := by
            refine up_ind ?_ ?_
            · intro e
              rw [Nat.sub_self] at e
              rw [e] at g2
              exact absurd g2 (Nat.lt_irrefl _)
            · intro i hi ih2 e
              rw [frs_step hi] at e
              refine w_Mod_first_37 hK _ _ _ _ N3 ⟨_, m_mayFollow (by omega) (by omega) (r1 i (by omega)) (hml i), ?_⟩
              rintro r N4 ⟨rfl, rfl⟩
              refine ⟨zo_rng _, fun z => ?_, fun z => ?_⟩
              · rw [if_neg (by rw [zo_0 z]; exact Bool.false_ne_true)] at e
                exact ih2 e
              · have hy := zo_ne z
                rw [if_pos hy] at e
                rw [e] at g4 ih
                have hl := tg_lt g1 hi
                have hb := wF_bd (m := mS (N 32) (N 33) k) hn hl
                rw [orI_pow (by omega) (by omega) (may_no hy), Int.toNat_natCast, r3 _ hl]
                exact ⟨by omega, by omega, fun _ => ih, fun z2 => absurd z2 g4⟩
          exact inn 0 (by omega) rfl
      exact key 0 (by omega)
    · rw [wT_full hn] at q3
      unfold vFirst; rw [if_neg (fun z => z.2 q3)]
theorem op_first {t : TT} {tb B : Nat} {M N : Mm} {x : Int} (hx : rng x) (h : Sim t tb B M N) : Op (S_Main_first x) (S_Mod_first x) B M N := Op.ask h (c_first hx h) (m_first hx h)
theorem c_ask {t : TT} {tb B : Nat} {M N : Mm} (h : Sim t tb B M N) : S_Main_ask M (PC tb M (qA (gPt (mS (N 32) (N 33) (N 31 0).toNat) (tn t)) (tn t) (wT (mS (N 32) (N 33) (N 31 0).toNat) (tn t) (2 ^ tn t - 1), -1) (tn t)).2) := by
  obtain ⟨hW, hT, hS, hN, hP, hY, ⟨-, k, k1, k2, k3, k4⟩, -⟩ := h
  have hn := hW.1
  rw [k2, Int.toNat_natCast]
  refine W_Main_ask M ⟨tb, hT.2.1, at_tb hT.1, ?_⟩
  rw [hT.2.2.2.1.1.1]
  refine ⟨_, c_bestQuestion (o := N 32) (w := N 33) (g := gPt (mS (N 32) (N 33) k) (tn t)) hn k1 k3 (fun i hi => ?_) (fun a b hab hb => ⟨gPt_c hn hab hb, gPt_in hn⟩), ?_⟩
  · have := k4 i hi
    rw [show 8 * 0 + i = i by omega] at this
    rw [← this.1, ← this.2.1]
    exact ⟨rfl, rfl, this.2.2⟩
  · rintro r M1 ⟨rfl, h1⟩
    exact ⟨rfl, h1.wk (fun c hc => by omega)⟩
theorem m_ask {t : TT} {tb B : Nat} {M N : Mm} (h : Sim t tb B M N) : S_Mod_ask N (PN N (qA (gPt (mS (N 32) (N 33) (N 31 0).toNat) (tn t)) (tn t) (wT (mS (N 32) (N 33) (N 31 0).toNat) (tn t) (2 ^ tn t - 1), -1) (tn t)).2) := by
  obtain ⟨hW, hT, hS, hN, hP, hY, ⟨-, k, k1, k2, k3, k4⟩, -⟩ := h
  have hn := hW.1
  have h7 := pw7 hn
  have ho : ∀ i, i < k → (0 ≤ N 32 i ∧ N 32 i < tn t ∧ 0 ≤ N 33 i ∧ N 33 i < tn t) := fun i hi => by
    have := k4 i hi
    rw [show 8 * 0 + i = i by omega] at this
    omega
  have hml := mS_lt (o := N 32) (w := N 33) (k := k) (fun i hi => by have := ho i hi; omega)
  rw [k2, Int.toNat_natCast]
  refine e_Mod_ask N fun K hK => w_Mod_ask_0 hK N ?_
  rintro N1 rfl
  have hT1 := hT.2.2.2.2.1.thr
  refine ⟨_, m_laysOrders (k := k) (o := N 32) (w := N 33) hn hT1.1.1 (by rw [upr_eq, if_neg (by omega)]; exact k2) k3 (by rw [upr_eq, if_neg (by omega)]) (by rw [upr_eq, if_neg (by omega)]) ho, ?_⟩
  rintro r N2 ⟨rfl, r1, r2, r3, r4⟩
  have hw := wT_in (m := mS (N 32) (N 33) k) (n := tn t) (T := 2 ^ tn t - 1) hn (by omega)
  have e3 : N2 3 0 = (tn t : Int) := by rw [r4.1 3 (by omega) (by omega)]; exact hT1.1.1
  refine ⟨_, m_laysAheads hn e3 (fun h hh => ⟨r1 h hh, hml h⟩) r2 r3, ?_⟩
  rintro N3 ⟨u1, u2⟩
  have e3' : N3 3 0 = (tn t : Int) := by rw [u2.1 3 (by omega) (by omega)]; exact e3
  have fin : FrM scM scQ N N3 ∧ ∀ i, i < 33 → N3 34 i = N 34 i := ⟨(thrM.tr (r4.wk (fun c hc => by omega) (fun _ z => z.elim))).tr (u2.wk (fun c hc => by omega) (fun _ z => z.elim)), fun i _ => by rw [u2.1 34 (by omega) (by omega), r4.1 34 (by omega) (by omega), s34]⟩
  have k18 : ∀ a, a ≤ tn t → K NM RRM 18 [(0, vr 1), (1, vi (qA (gPt (mS (N 32) (N 33) k) (tn t)) (tn t) (wT (mS (N 32) (N 33) k) (tn t) (2 ^ tn t - 1), -1) a).1), (2, vi (qA (gPt (mS (N 32) (N 33) k) (tn t)) (tn t) (wT (mS (N 32) (N 33) k) (tn t) (2 ^ tn t - 1), -1) a).2), (3, vi (a : Int))] [] N3 := by
    refine up_ind ?_ ?_
    · refine w_Mod_ask_18 hK _ _ _ N3 ?_
      rw [e3']
      exact ⟨by omega, by omega, fun _ => ⟨rfl, fin⟩, fun z => absurd (Int.le_refl _) z⟩
    · intro a ha ih
      have hqa := qA_in (g := gPt (mS (N 32) (N 33) k) (tn t)) (n := tn t) (p := (wT (mS (N 32) (N 33) k) (tn t) (2 ^ tn t - 1), -1)) (fun a b h1 h2 => gPt_in hn) hw a (by omega)
      refine w_Mod_ask_18 hK _ _ _ N3 ?_
      rw [e3']
      refine ⟨by omega, by omega, fun z => by omega, fun _ => ?_⟩
      have k33 : ∀ j, j ≤ tn t - (a + 1) → K NM RRM 33 [(0, vr 1), (1, vi (qB (gPt (mS (N 32) (N 33) k) (tn t)) a (qA (gPt (mS (N 32) (N 33) k) (tn t)) (tn t) (wT (mS (N 32) (N 33) k) (tn t) (2 ^ tn t - 1), -1) a) j).1), (2, vi (qB (gPt (mS (N 32) (N 33) k) (tn t)) a (qA (gPt (mS (N 32) (N 33) k) (tn t)) (tn t) (wT (mS (N 32) (N 33) k) (tn t) (2 ^ tn t - 1), -1) a) j).2), (3, vi (a : Int)), (4, vi ((a + 1 + j : Nat) : Int))] [] N3 := by
        refine up_ind ?_ ?_
        · refine w_Mod_ask_33 hK _ _ _ _ N3 ?_
          rw [e3']
          exact ⟨by omega, by omega, fun _ => ih, fun z => by omega⟩
        · intro j hj ih2
          have hqb := qB_in (g := gPt (mS (N 32) (N 33) k) (tn t)) (a := a) (n := tn t) (fun a b h1 h2 => gPt_in hn) hqa j (by omega)
          have e1 : N3 44 (7 * (a : Int) + ((a + 1 + j : Nat) : Int)).toNat = wF (mAdd (mS (N 32) (N 33) k) a (a + 1 + j)) (tn t) 0 := by
            rw [show (7 * (a : Int) + ((a + 1 + j : Nat) : Int)).toNat = 7 * a + (a + 1 + j) by omega, u1 _ _ (by omega) (by omega), ah_eq hn (by omega) (by omega) (by omega)]
          have e2 : N3 44 (7 * ((a + 1 + j : Nat) : Int) + (a : Int)).toNat = wF (mAdd (mS (N 32) (N 33) k) (a + 1 + j) a) (tn t) 0 := by
            rw [show (7 * ((a + 1 + j : Nat) : Int) + (a : Int)).toNat = 7 * (a + 1 + j) + a by omega, u1 _ _ (by omega) (by omega), ah_eq hn (by omega) (by omega) (by omega)]
          have b1 := wF_bd (m := mAdd (mS (N 32) (N 33) k) a (a + 1 + j)) (n := tn t) (S := 0) hn (by omega)
          have b2 := wF_bd (m := mAdd (mS (N 32) (N 33) k) (a + 1 + j) a) (n := tn t) (S := 0) hn (by omega)
          refine w_Mod_ask_33 hK _ _ _ _ N3 ?_
          rw [e3', e1, e2]
          refine ⟨by omega, by omega, fun z => by omega, fun _ => ⟨by omega, by omega, by omega, by omega, by omega, fun z => ?_, fun z => ?_⟩⟩
          · rw [qB, if_pos (show gPt (mS (N 32) (N 33) k) (tn t) a (a + 1 + j) < _ from z)] at ih2
            exact ih2
          · rw [qB, if_neg (show ¬ gPt (mS (N 32) (N 33) k) (tn t) a (a + 1 + j) < _ from z)] at ih2
            exact ih2
      exact k33 0 (by omega)
  exact k18 0 (by omega)
theorem op_ask {t : TT} {tb B : Nat} {M N : Mm} (h : Sim t tb B M N) : Op S_Main_ask S_Mod_ask B M N := Op.ask h (c_ask h) (m_ask h)
