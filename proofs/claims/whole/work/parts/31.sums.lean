def plo (σ : Nat → Int) (h : Int) : Nat → Nat
  | 0 => 0
  | k + 1 => if σ (5 + k) = h then k else plo σ h k
theorem plo_at {n B : Nat} {σ : Nat → Int} (hw : WF n B σ) {p : Nat} (hp : p < n) : plo σ (σ (5 + p)) n = p := by
  have key : ∀ k, k ≤ n → p < k → plo σ (σ (5 + p)) k = p := by
    intro k
    induction k with
    | zero => intro _ h; omega
    | succ k ih =>
      intro hk hpk
      unfold plo
      split
      · rename_i e; exact hw.2.2.2.2.2 k p (by omega) hp e
      · rename_i e
        have : k ≠ p := fun z => e (by rw [z])
        exact ih (by omega) (by omega)
  exact key n (Nat.le_refl _) hp
theorem m_doesShun {t : TT} {N : Mm} {h : Nat} {a : Int} (hT : RM t N) (hW : WT t) (hh : h < tn t) (ha : a = -1 ∨ (0 ≤ a ∧ a < tn t)) : S_Mod_doesShun (h : Int) a N (fun r N' => N' = N ∧ r = if a = -1 then 0 else zo (shB t h a.toNat)) := by
  have hn := hW.1
  have hq := hW.2.1 h hh
  refine W_Mod_doesShun _ _ N ?_
  refine ⟨by omega, fun q => ⟨rfl, by rw [if_pos (by omega)]⟩, fun q => ⟨by omega, ?_⟩⟩
  obtain ⟨k, rfl⟩ : ∃ k : Nat, a = (k : Int) := ⟨a.toNat, by omega⟩
  rw [if_neg (by omega), Int.toNat_natCast, Int.toNat_natCast, (hT.2.1 h hh).2.2]
  obtain ⟨s, hs⟩ : ∃ s : Nat, tshun t h = (s : Int) := ⟨(tshun t h).toNat, by omega⟩
  rw [hs, bit1 (by omega) (by omega)]
  unfold shB
  rw [hs, Int.toNat_natCast]
  refine ⟨fun q => ?_, fun q => ?_⟩ <;> cases h9 : s.testBit k <;> simp [h9] at q ⊢
theorem m_shunnedNow {t : TT} {B : Nat} {σ : Nat → Int} {N : Mm} (hT : RM t N) (hW : WT t) (hS : N 34 = σ) (hw : WF (tn t) B σ) : S_Mod_shunnedNow N (fun r N' => N' = N ∧ r = shN t σ) := by
  have hn := hW.1
  have tot : sm (fun h => shP t σ (plo σ (h : Int) (tn t))) (tn t) = shN t σ := by
    rw [← sm_perm (tn t) (fun p => (σ (5 + p)).toNat) (fun i hi => by have := hw.2.2.2.2.1 i hi; omega) (fun a b ha hb e => by
      have h1 := hw.2.2.2.2.1 a ha
      have h2 := hw.2.2.2.2.1 b hb
      exact hw.2.2.2.2.2 a b ha hb (by omega))]
    refine sm_ext (fun p hp => ?_)
    have w5 := hw.2.2.2.2.1 p hp
    rw [show (((σ (5 + p)).toNat : Nat) : Int) = σ (5 + p) by omega, plo_at hw hp]
  refine e_Mod_shunnedNow N fun K hK => w_Mod_shunnedNow_0 hK N ?_
  have key : ∀ k, k ≤ tn t → K NM RRM 4 [(0, vr 1), (1, vi (sm (fun h => shP t σ (plo σ (h : Int) (tn t))) k)), (2, vi (k : Int))] [] N := by
    refine up_ind ?_ ?_
    · refine w_Mod_shunnedNow_4 hK _ _ N ?_
      rw [hT.1.1]
      exact ⟨by omega, by omega, fun _ => ⟨rfl, tot⟩, fun q => absurd (Int.le_refl _) q⟩
    · intro k hk ih
      obtain ⟨p, hp, hpk⟩ := hw.place hk
      have epl : plo σ (k : Int) (tn t) = p := by rw [← hpk]; exact plo_at hw hp
      have ha := ahd_in (t := t) hw p (by omega)
      rw [sm, epl] at ih
      refine w_Mod_shunnedNow_4 hK _ _ N ?_
      rw [hT.1.1]
      refine ⟨by omega, by omega, fun q => by omega, fun q => ⟨_, m_isGoing hS hw (by omega), ?_⟩⟩
      rintro r N1 ⟨rfl, rfl⟩
      refine ⟨zo_rng _, fun q2 => ?_, fun q2 => ⟨_, m_aheadOf hT hW hS hw hp hpk, ?_⟩⟩
      · have g : ¬ gosB σ k = true := by simpa using q2
        have e : shP t σ p = 0 := by unfold shP; rw [hpk, Int.toNat_natCast, if_neg (fun z => g z.1)]
        rw [e] at ih; exact ih
      · rintro r2 N2 ⟨rfl, rfl⟩
        have g : gosB σ k = true := by simpa using q2
        refine ⟨_, m_doesShun hT hW hk ha, ?_⟩
        rintro r3 N3 ⟨rfl, rfl⟩
        have e : shP t σ p = (if ahd t σ p = -1 then 0 else zo (shB t k (ahd t σ p).toNat)) := by
          unfold shP
          rw [hpk, Int.toNat_natCast]
          by_cases c : ahd t σ p = -1
          · rw [if_neg (fun z => z.2.1 c), if_pos c]
          · rw [if_neg c]
            cases hq : shB t k (ahd t σ p).toNat
            · simp
            · simp [g, c]
        rw [e] at ih
        refine ⟨?_, fun q3 => ?_, fun q3 => ?_⟩
        · split
          · decide
          · exact zo_rng _
        · rw [q3] at ih; exact ih
        · have : (if ahd t σ p = -1 then 0 else zo (shB t k (ahd t σ p).toNat)) = 1 := by
            split at q3
            · exact absurd rfl q3
            · rename_i c
              rw [if_neg c]
              cases hq : shB t k (ahd t σ p).toNat
              · simp [hq] at q3
              · rfl
          rw [this] at ih; exact ih
  exact key 0 (by omega)
theorem c_allWet {n : Nat} {σ : Nat → Int} {M : Mm} {b : Nat} (hb : At shC NN b (.inl 5)) (hS : RS n σ M b) (hn : n ≤ 7) : S_State_allWet b (n : Int) M (fun r M' => M' = M ∧ r = sm (fun h => σ (19 + h)) n) := by
  refine e_State_allWet b _ M fun K hK => w_State_allWet_0 hK b hb _ M ?_
  have key : ∀ k, k ≤ n → K NN RRC 4 [(0, vr b), (1, vi (n : Int)), (2, vi (sm (fun h => σ (19 + h)) k)), (3, vi (k : Int))] [] M := by
    refine up_ind ?_ ?_
    · exact w_State_allWet_4 hK b hb _ _ _ M ⟨by omega, by omega, fun _ => ⟨rfl, rfl⟩, fun q => absurd (Int.le_refl _) q⟩
    · intro k hk ih
      refine w_State_allWet_4 hK b hb _ _ _ M ?_
      rw [Int.toNat_natCast, (hS.2 k hk).2.2.1]
      exact ⟨by omega, by omega, fun q => by omega, fun q => ⟨by omega, ih⟩⟩
  exact key 0 (by omega)
theorem c_allPrinted {n : Nat} {σ : Nat → Int} {M : Mm} {b : Nat} (hb : At shC NN b (.inl 5)) (hS : RS n σ M b) (hn : n ≤ 7) : S_State_allPrinted b (n : Int) M (fun r M' => M' = M ∧ r = sm (fun h => σ (26 + h)) n) := by
  refine e_State_allPrinted b _ M fun K hK => w_State_allPrinted_0 hK b hb _ M ?_
  have key : ∀ k, k ≤ n → K NN RRC 4 [(0, vr b), (1, vi (n : Int)), (2, vi (sm (fun h => σ (26 + h)) k)), (3, vi (k : Int))] [] M := by
    refine up_ind ?_ ?_
    · exact w_State_allPrinted_4 hK b hb _ _ _ M ⟨by omega, by omega, fun _ => ⟨rfl, rfl⟩, fun q => absurd (Int.le_refl _) q⟩
    · intro k hk ih
      refine w_State_allPrinted_4 hK b hb _ _ _ M ?_
      rw [Int.toNat_natCast, (hS.2 k hk).2.2.2]
      exact ⟨by omega, by omega, fun q => by omega, fun q => ⟨by omega, ih⟩⟩
  exact key 0 (by omega)
theorem m_together {t : TT} {N : Mm} {σ : Nat → Int} {k0 : Nat} (hT : RM t N) (hW : WT t) (hS : N 34 = σ) (hk : k0 ≤ 26) : S_Mod_together (k0 : Int) N (fun r N' => N' = N ∧ r = sm (fun h => σ (k0 + h)) (tn t)) := by
  have hn := hW.1
  refine e_Mod_together _ N fun K hK => w_Mod_together_0 hK _ N ?_
  have key : ∀ k, k ≤ tn t → K NM RRM 4 [(0, vr 1), (1, vi (k0 : Int)), (2, vi (sm (fun h => σ (k0 + h)) k)), (3, vi (k : Int))] [] N := by
    refine up_ind ?_ ?_
    · refine w_Mod_together_4 hK _ _ _ N ?_
      rw [hT.1.1]
      exact ⟨by omega, by omega, fun _ => ⟨rfl, rfl⟩, fun q => absurd (Int.le_refl _) q⟩
    · intro k hk ih
      refine w_Mod_together_4 hK _ _ _ N ?_
      rw [hT.1.1, hS, show ((k0 : Int) + (k : Int)).toNat = k0 + k by omega]
      exact ⟨by omega, by omega, fun q => by omega, fun q => ⟨by omega, ih⟩⟩
  exact key 0 (by omega)
/-- does some house of the first k that goes have no more wet than x -/
def dryB (σ : Nat → Int) (x : Int) : Nat → Bool
  | 0 => false
  | k + 1 => dryB σ x k || (gosB σ k && decide (σ (19 + k) ≤ x))
theorem c_someGoesWithin {n B : Nat} {σ : Nat → Int} {M : Mm} {b : Nat} {x : Int} (hb : At shC NN b (.inl 5)) (hS : RS n σ M b) (hw : WF n B σ) (hn : n ≤ 7) (hx : rng x) : S_State_someGoesWithin b x (n : Int) M (fun r M' => M' = M ∧ r = zo (dryB σ x n)) := by
  refine e_State_someGoesWithin b _ _ M fun K hK => w_State_someGoesWithin_0 hK b hb _ _ M ?_
  have key : ∀ k, k ≤ n → dryB σ x k = false → K NN RRC 2 [(0, vr b), (1, vi x), (2, vi (n : Int)), (3, vi (k : Int))] [] M := by
    have mono : ∀ k j, dryB σ x k = true → dryB σ x (k + j) = true := by
      intro k j hk
      induction j with
      | zero => exact hk
      | succ j ih => show (dryB σ x (k + j) || _) = true; rw [ih]; rfl
    refine up_ind ?_ ?_
    · intro hd
      exact w_State_someGoesWithin_2 hK b hb _ _ _ M ⟨by omega, by omega, fun _ => ⟨rfl, by rw [hd]; rfl⟩, fun q => absurd (Int.le_refl _) q⟩
    · intro k hk ih hd
      have w5 := hw.2.2.2.2.1 k hk
      refine w_State_someGoesWithin_2 hK b hb _ _ _ M ?_
      refine ⟨by omega, by omega, fun q => by omega, fun q => ⟨_, c_goes hb hS hw (by omega), ?_⟩⟩
      rintro r M1 ⟨rfl, rfl⟩
      rw [Int.toNat_natCast, (hS.2 k hk).2.2.1]
      refine ⟨zo_rng _, fun q2 => ih ?_, fun q2 => ⟨by omega, by omega, hx, fun q3 => ih ?_, fun q3 => ⟨rfl, ?_⟩⟩⟩
      · have g : gosB σ k = false := by simpa using q2
        unfold dryB; rw [hd, g]; rfl
      · unfold dryB; rw [hd, decide_eq_false (by omega)]; simp
      · have g : gosB σ k = true := by simpa using q2
        have e : dryB σ x (k + 1) = true := by unfold dryB; rw [hd, g, decide_eq_true (by omega)]; rfl
        have := mono (k + 1) (n - (k + 1)) e
        rw [show k + 1 + (n - (k + 1)) = n by omega] at this
        rw [this]; rfl
  exact key 0 (by omega) rfl
theorem m_isSomeDry {t : TT} {B : Nat} {σ : Nat → Int} {N : Mm} {x : Int} (hT : RM t N) (hW : WT t) (hS : N 34 = σ) (hw : WF (tn t) B σ) (hx : rng x) : S_Mod_isSomeDry x N (fun r N' => N' = N ∧ r = zo (dryB σ x (tn t))) := by
  have hn := hW.1
  refine e_Mod_isSomeDry _ N fun K hK => w_Mod_isSomeDry_0 hK _ N ?_
  have key : ∀ k, k ≤ tn t → dryB σ x k = false → K NM RRM 2 [(0, vr 1), (1, vi x), (2, vi (k : Int))] [] N := by
    have mono : ∀ k j, dryB σ x k = true → dryB σ x (k + j) = true := by
      intro k j hk
      induction j with
      | zero => exact hk
      | succ j ih => show (dryB σ x (k + j) || _) = true; rw [ih]; rfl
    refine up_ind ?_ ?_
    · intro hd
      refine w_Mod_isSomeDry_2 hK _ _ N ?_
      rw [hT.1.1]
      exact ⟨by omega, by omega, fun _ => ⟨rfl, by rw [hd]; rfl⟩, fun q => absurd (Int.le_refl _) q⟩
    · intro k hk ih hd
      have w5 := hw.2.2.2.2.1 k hk
      refine w_Mod_isSomeDry_2 hK _ _ N ?_
      rw [hT.1.1]
      refine ⟨by omega, by omega, fun q => by omega, fun q => ⟨_, m_isGoing hS hw (by omega), ?_⟩⟩
      rintro r N1 ⟨rfl, rfl⟩
      rw [show ((19 : Int) + (k : Int)).toNat = 19 + k by omega, hS]
      refine ⟨zo_rng _, fun q2 => ih ?_, fun q2 => ⟨by omega, by omega, hx, fun q3 => ih ?_, fun q3 => ⟨rfl, ?_⟩⟩⟩
      · have g : gosB σ k = false := by simpa using q2
        unfold dryB; rw [hd, g]; rfl
      · unfold dryB; rw [hd, decide_eq_false (by omega)]; simp
      · have g : gosB σ k = true := by simpa using q2
        have e : dryB σ x (k + 1) = true := by unfold dryB; rw [hd, g, decide_eq_true (by omega)]; rfl
        have := mono (k + 1) (tn t - (k + 1)) e
        rw [show k + 1 + (tn t - (k + 1)) = tn t by omega] at this
        rw [this]; rfl
  exact key 0 (by omega) rfl
