/-- two that bid: what each gets -/
def fG (w : Int) (a b : Nat) : Int := if a < b then 0 else w - (b : Int)
def oG (w : Int) (a b : Nat) : Int := if b ≤ a then 0 else w - (a : Int)
def rsB (u v : Int) (a b : Nat) : Bool := (List.range 10).all fun x => decide (fG u x b ≤ fG u a b ∧ oG v a x ≤ oG v a b)
theorem rsB_iff {u v : Int} {a b : Nat} : rsB u v a b = true ↔ ∀ x, x < 10 → (fG u x b ≤ fG u a b ∧ oG v a x ≤ oG v a b) := by
  unfold rsB
  rw [List.all_eq_true]
  exact ⟨fun h x hx => of_decide_eq_true (h x (List.mem_range.mpr hx)), fun h x hx => decide_eq_true (h x (List.mem_range.mp hx))⟩
theorem rsB_no {u v : Int} {a b x : Nat} (hx : x < 10) (h : ¬ (fG u x b ≤ fG u a b ∧ oG v a x ≤ oG v a b)) : rsB u v a b = false := by
  cases c : rsB u v a b
  · rfl
  · exact absurd (rsB_iff.mp c x hx) h
theorem fG_in {w : Int} {a b : Nat} (hw : 0 ≤ w ∧ w ≤ 9) (hb : b < 10) : rng (fG w a b) := by
  unfold fG
  split <;> omega
theorem oG_in {w : Int} {a b : Nat} (hw : 0 ≤ w ∧ w ≤ 9) (ha : a < 10) : rng (oG w a b) := by
  unfold oG
  split <;> omega
theorem c_gain1 {w : Int} {a b : Nat} {M : Mm} (ha : a < 10) (hb : b < 10) : S_Main_gainOfFirst w (a : Int) (b : Int) M (fun r M' => M' = M ∧ r = fG w a b) := by
  refine W_Main_gainOfFirst _ _ _ M ⟨by omega, by omega, fun z => ⟨rfl, ?_⟩, fun z => ⟨rfl, ?_⟩⟩
  · unfold fG; rw [if_pos (by omega)]
  · unfold fG; rw [if_neg (by omega)]
theorem c_gain2 {w : Int} {a b : Nat} {M : Mm} (ha : a < 10) (hb : b < 10) : S_Main_gainOfOther w (a : Int) (b : Int) M (fun r M' => M' = M ∧ r = oG w a b) := by
  refine W_Main_gainOfOther _ _ _ M ⟨by omega, by omega, fun z => ⟨rfl, ?_⟩, fun z => ⟨rfl, ?_⟩⟩
  · unfold oG; rw [if_pos (by omega)]
  · unfold oG; rw [if_neg (by omega)]
theorem m_gain1 {w : Int} {a b : Nat} {N : Mm} (ha : a < 10) (hb : b < 10) : S_Mod_firstGets w (a : Int) (b : Int) N (fun r N' => N' = N ∧ r = fG w a b) := by
  refine W_Mod_firstGets _ _ _ N ⟨by omega, by omega, fun z => ⟨rfl, ?_⟩, fun z => ⟨rfl, ?_⟩⟩
  · unfold fG; rw [if_pos (by omega)]
  · unfold fG; rw [if_neg (by omega)]
theorem m_gain2 {w : Int} {a b : Nat} {N : Mm} (ha : a < 10) (hb : b < 10) : S_Mod_otherGets w (a : Int) (b : Int) N (fun r N' => N' = N ∧ r = oG w a b) := by
  refine W_Mod_otherGets _ _ _ N ⟨by omega, by omega, fun z => ⟨rfl, ?_⟩, fun z => ⟨rfl, ?_⟩⟩
  · unfold oG; rw [if_pos (by omega)]
  · unfold oG; rw [if_neg (by omega)]
theorem c_isRest {u v : Int} {a b : Nat} {M : Mm} (hu : 0 ≤ u ∧ u ≤ 9) (hv : 0 ≤ v ∧ v ≤ 9) (ha : a < 10) (hb : b < 10) : S_Main_isRest u v (a : Int) (b : Int) M (fun r M' => M' = M ∧ r = zo (rsB u v a b)) := by
  refine e_Main_isRest _ _ _ _ M fun K hK => w_Main_isRest_0 hK _ _ _ _ M ⟨_, c_gain1 ha hb, ?_⟩
  rintro r1 M1 ⟨rfl, rfl⟩
  refine ⟨_, c_gain2 ha hb, ?_⟩
  rintro r2 M2 ⟨rfl, rfl⟩
  have no : ∀ x, x < 10 → ¬ (fG u x b ≤ fG u a b ∧ oG v a x ≤ oG v a b) → rsB u v a b = false := fun x hx h => rsB_no hx h
  have key : ∀ i, i ≤ 10 → (∀ x, x < i → (fG u x b ≤ fG u a b ∧ oG v a x ≤ oG v a b)) → K NN RRC 19 [(0, vi u), (1, vi v), (2, vi (a : Int)), (3, vi (b : Int)), (4, vi (fG u a b)), (5, vi (oG v a b)), (6, vi (i : Int))] [] M2 := by
    refine up_ind ?_ ?_
    · intro h
      have : rsB u v a b = true := rsB_iff.mpr h
      exact w_Main_isRest_19 hK _ _ _ _ _ _ _ M2 ⟨by decide, fun _ => ⟨rfl, by rw [this]; rfl⟩, fun z => absurd (by decide) z⟩
    · intro i hi ih h
      refine w_Main_isRest_19 hK _ _ _ _ _ _ _ M2 ⟨by omega, fun z => by omega, fun _ => ⟨_, c_gain1 hi hb, ?_⟩⟩
      rintro r3 M3 ⟨rfl, rfl⟩
      refine ⟨fG_in hu hb, fG_in hu hb, fun z => ⟨rfl, ?_⟩, fun z => ⟨_, c_gain2 ha hi, ?_⟩⟩
      · rw [no i hi (fun y => by omega)]; rfl
      · rintro r4 M4 ⟨rfl, rfl⟩
        refine ⟨oG_in hv ha, oG_in hv ha, fun y => ?_, fun y => ⟨rfl, ?_⟩⟩
        · rw [show (i : Int) + 1 = ((i + 1 : Nat) : Int) by omega]
          refine ih (fun x hx => ?_)
          by_cases e : x = i
          · subst e; exact ⟨by omega, y⟩
          · exact h x (by omega)
        · rw [no i hi (fun q => y q.2)]; rfl
  exact key 0 (by omega) (fun x hx => absurd hx (Nat.not_lt_zero _))
theorem m_isRest {u v : Int} {a b : Nat} {N : Mm} (hu : 0 ≤ u ∧ u ≤ 9) (hv : 0 ≤ v ∧ v ≤ 9) (ha : a < 10) (hb : b < 10) : S_Mod_isRest u v (a : Int) (b : Int) N (fun r N' => N' = N ∧ r = zo (rsB u v a b)) := by
  refine e_Mod_isRest _ _ _ _ N fun K hK => w_Mod_isRest_0 hK _ _ _ _ N ?_
  have no : ∀ x, x < 10 → ¬ (fG u x b ≤ fG u a b ∧ oG v a x ≤ oG v a b) → rsB u v a b = false := fun x hx h => rsB_no hx h
  have key : ∀ i, i ≤ 10 → (∀ x, x < i → (fG u x b ≤ fG u a b ∧ oG v a x ≤ oG v a b)) → K NM RRM 3 [(0, vi u), (1, vi v), (2, vi (a : Int)), (3, vi (b : Int)), (4, vi (i : Int))] [] N := by
    refine up_ind ?_ ?_
    · intro h
      have : rsB u v a b = true := rsB_iff.mpr h
      exact w_Mod_isRest_3 hK _ _ _ _ _ N ⟨by decide, fun _ => ⟨rfl, by rw [this]; rfl⟩, fun z => absurd (by decide) z⟩
    · intro i hi ih h
      refine w_Mod_isRest_3 hK _ _ _ _ _ N ⟨by omega, fun z => by omega, fun _ => ⟨_, m_gain1 hi hb, ?_⟩⟩
      rintro r1 N1 ⟨rfl, rfl⟩
      refine ⟨_, m_gain1 ha hb, ?_⟩
      rintro r2 N2 ⟨rfl, rfl⟩
      refine ⟨fG_in hu hb, fG_in hu hb, fun z => ⟨rfl, ?_⟩, fun z => ⟨_, m_gain2 ha hi, ?_⟩⟩
      · rw [no i hi (fun y => by omega)]; rfl
      · rintro r3 N3 ⟨rfl, rfl⟩
        refine ⟨_, m_gain2 ha hb, ?_⟩
        rintro r4 N4 ⟨rfl, rfl⟩
        refine ⟨oG_in hv ha, oG_in hv ha, fun y => ?_, fun y => ⟨rfl, ?_⟩⟩
        · rw [show (i : Int) + 1 = ((i + 1 : Nat) : Int) by omega]
          refine ih (fun x hx => ?_)
          by_cases e : x = i
          · subst e; exact ⟨by omega, y⟩
          · exact h x (by omega)
        · rw [no i hi (fun q => y q.2)]; rfl
  exact key 0 (by omega) (fun x hx => absurd hx (Nat.not_lt_zero _))
/-- how many rests lie before k, and the one asked for -/
def rsk (u v : Int) (k : Nat) : Bool := rsB u v (k / 10) (k % 10)
def rsC (u v : Int) : Nat → Nat
  | 0 => 0
  | k + 1 => if rsk u v k = true then rsC u v k + 1 else rsC u v k
def rsA (u v w : Int) : Nat → Int
  | 0 => -1
  | k + 1 => if rsk u v k = true then (if (rsC u v k : Int) = w then (k : Int) else rsA u v w k) else rsA u v w k
theorem rsC_le (u v : Int) : ∀ k, rsC u v k ≤ k
  | 0 => Nat.le_refl _
  | k + 1 => by
    have := rsC_le u v k
    rw [rsC]
    split <;> omega
theorem rsA_after {u v w : Int} {k : Nat} (h1 : rsk u v k = true) (h2 : (rsC u v k : Int) = w) : ∀ j, k < j → rsA u v w j = (k : Int) ∧ w < (rsC u v j : Int)
  | 0, h => by omega
  | j + 1, h => by
    rw [rsA, rsC]
    by_cases e : j = k
    · subst e
      rw [if_pos h1, if_pos h2, if_pos h1]
      exact ⟨rfl, by omega⟩
    · obtain ⟨a, b⟩ := rsA_after h1 h2 j (by omega)
      by_cases c : rsk u v j = true
      · rw [if_pos c, if_pos c, if_neg (by omega)]
        exact ⟨a, by omega⟩
      · rw [if_neg c, if_neg c]
        exact ⟨a, b⟩
def rsQ (u v w : Int) : Prop := (0 ≤ u ∧ u ≤ 9) ∧ (0 ≤ v ∧ v ≤ 9) ∧ -1 ≤ w
def rsV (u v w : Int) : Int := if w = -1 then (rsC u v 100 : Int) else rsA u v w 100
/-- the model's answer, and whether it threw -/
theorem m_rests {u v w : Int} {N : Mm} (hu : rng u) (hv : rng v) (hw : rng w) : S_Mod_rests u v w N (fun x N' => ((rsQ u v w ∧ w < (rsC u v 100 : Int)) → x = rsV u v w ∧ N' 1 0 = 0) ∧ (¬ (rsQ u v w ∧ w < (rsC u v 100 : Int)) → x = 0 ∧ N' 1 0 = 1) ∧ FrM (fun _ => False) (fun k => k = 0) N N') := by
  refine e_Mod_rests _ _ _ N fun K hK => w_Mod_rests_0 hK _ _ _ N ⟨_, m_within hu (by decide) (by decide), ?_⟩
  rintro r1 N1 ⟨rfl, rfl⟩
  have bad : ¬ rsQ u v w → K NM RRM 31 [(0, vr 1), (1, vi u), (2, vi v), (3, vi w)] [vi 1, vr 1] N1 := by
    intro h
    refine w_Mod_rests_31 hK _ _ _ _ N1 ?_
    intro N2 g2
    have e : N2 1 0 = 1 := by rw [g2, upr_eq, if_pos rfl, up1_eq, if_pos rfl]
    exact ⟨by rw [e]; decide, fun z => absurd e z, fun _ => ⟨fun z => absurd z.1 h, fun _ => ⟨rfl, e⟩, by rw [g2]; exact FrM.u1 rfl⟩⟩
  have good : rsQ u v w → K NM RRM 31 [(0, vr 1), (1, vi u), (2, vi v), (3, vi w)] [vi 0, vr 1] N1 := by
    intro h
    obtain ⟨qu, qv, qw⟩ := id h
    refine w_Mod_rests_31 hK _ _ _ _ N1 ?_
    intro N2 g2
    have e : N2 1 0 = 0 := by rw [g2, upr_eq, if_pos rfl, up1_eq, if_pos rfl]
    have f2 : FrM (fun _ => False) (fun k => k = 0) N1 N2 := by rw [g2]; exact FrM.u1 rfl
    refine ⟨by rw [e]; decide, fun _ => ?_, fun z => absurd z (by rw [e]; decide)⟩
    have key : ∀ i, i ≤ 100 → (0 ≤ w → (rsC u v i : Int) ≤ w) → K NM RRM 50 [(0, vr 1), (1, vi u), (2, vi v), (3, vi w), (4, vi (rsC u v i : Int)), (5, vi (i : Int))] [] N2 := by
      refine up_ind ?_ ?_
      · intro hc
        have hl := rsC_le u v 100
        refine w_Mod_rests_50 hK _ _ _ _ _ N2 ⟨by decide, fun _ => ⟨by omega, fun z => ?_, fun z => ?_⟩, fun z => absurd (by decide) z⟩
        · intro N3 g3
          have e3 : N3 1 0 = 1 := by rw [g3, upr_eq, if_pos rfl, up1_eq, if_pos rfl]
          have f3 : FrM (fun _ => False) (fun k => k = 0) N1 N3 := f2.tr (by rw [g3]; exact FrM.u1 rfl)
          refine ⟨by omega, fun _ => ⟨fun y => ?_, fun _ => ⟨rfl, e3⟩, f3⟩, fun y => absurd y z⟩
          have := hc (by omega)
          omega
        · intro N3 g3
          have e3 : N3 1 0 = 0 := by rw [g3, upr_eq, if_pos rfl, up1_eq, if_pos rfl]
          have f3 : FrM (fun _ => False) (fun k => k = 0) N1 N3 := f2.tr (by rw [g3]; exact FrM.u1 rfl)
          refine ⟨by omega, fun y => absurd z y, fun _ => ⟨fun _ => ⟨?_, e3⟩, fun y => absurd ⟨h, by omega⟩ y, f3⟩⟩
          unfold rsV; rw [if_pos z]
      · intro i hi ih hc
        have hl := rsC_le u v i
        refine w_Mod_rests_50 hK _ _ _ _ _ N2 ⟨by omega, fun z => by omega, fun _ => ?_⟩
        have ed : divI (i : Int) 10 = ((i / 10 : Nat) : Int) := divI_pos (d := 10) (by omega) (by omega) (by omega)
        have er : remI (i : Int) 10 = ((i % 10 : Nat) : Int) := remI_pos (d := 10) (by omega) (by omega) (by omega)
        rw [ed, er]
        refine ⟨_, m_isRest qu qv (by omega) (by omega), ?_⟩
        rintro r N3 ⟨rfl, rfl⟩
        have es : rsB u v (i / 10) (i % 10) = rsk u v i := rfl
        rw [es]
        rw [show (i : Int) + 1 = ((i + 1 : Nat) : Int) by omega]
        refine ⟨zo_rng _, fun z => ⟨by omega, by omega, fun y => ?_, fun y => ?_⟩, fun z => ?_⟩
        · have ec : rsC u v (i + 1) = rsC u v i + 1 := by rw [rsC, if_pos (zo_ne z)]
          have : (rsC u v i : Int) + 1 = (rsC u v (i + 1) : Int) := by rw [ec]; omega
          rw [this]
          exact ih (fun q => by have := hc q; omega)
        · obtain ⟨a1, a2⟩ := rsA_after (zo_ne z) y 100 hi
          refine ⟨fun _ => ⟨?_, e⟩, fun q => absurd ⟨h, a2⟩ q, f2⟩
          unfold rsV
          rw [if_neg (by omega), a1]
        · have ec : rsC u v (i + 1) = rsC u v i := by rw [rsC, if_neg (by rw [zo_0 z]; exact Bool.false_ne_true)]
          rw [← ec]
          exact ih (fun q => by rw [ec]; exact hc q)
    exact key 0 (by omega) (fun z => z)
  refine ⟨zo_rng _, fun z => bad (fun q => ?_), fun z => ⟨_, m_within hv (by decide) (by decide), ?_⟩⟩
  · have := zo_0 z
    simp at this
    have := q.1
    omega
  · have hu' : 0 ≤ u ∧ u ≤ 9 := by simpa using zo_ne z
    rintro r2 N2 ⟨rfl, rfl⟩
    refine ⟨zo_rng _, fun y => bad (fun q => ?_), fun y => ⟨hw, fun x => bad (fun q => by have := q.2.2; omega), fun x => good ⟨hu', by simpa using zo_ne y, by omega⟩⟩⟩
    have := zo_0 y
    simp at this
    have := q.2.1
    omega
