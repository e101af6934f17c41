def cnS (σ : Nat → Int) (w : Int) (h : Nat) : Int := if gosB σ h = true ∧ w ≤ σ (12 + h) then 1 else 0
def shrS (n : Nat) (σ : Nat → Int) : Nat → Int
  | 0 => 0
  | k + 1 => shrS n σ k + divI 1000 (sm (cnS σ ((k + 1 : Nat) : Int)) n)
theorem cnS_in (σ : Nat → Int) (w : Int) (h : Nat) : 0 ≤ cnS σ w h ∧ cnS σ w h ≤ 1 := by unfold cnS; split <;> omega
theorem sm_pos {f : Nat → Int} (h0 : ∀ i, 0 ≤ f i) : ∀ {n i : Nat}, i < n → 0 < f i → 0 < sm f n
  | n + 1, i, hi, h => by
    have h1 : 0 ≤ sm f n := by
      clear hi h
      induction n with
      | zero => exact Int.le_refl _
      | succ n ih => have := h0 n; show 0 ≤ sm f n + f n; omega
    have h2 := h0 n
    show 0 < sm f n + f n
    by_cases e : i = n
    · subst e; omega
    · have := sm_pos h0 (n := n) (i := i) (by omega) h; omega
theorem c_goingAsThick {t : TT} {tb B : Nat} {M N : Mm} {x : Int} (hx : rng x) (h : Sim t tb B M N) : S_Main_goingAsThick x M (fun r M' => r = sm (cnS (N 34) x) (tn t) ∧ M' = M) := by
  obtain ⟨hW, hT, hS, hN, -⟩ := h
  have hn := hW.1
  refine e_Main_goingAsThick _ M fun K hK => w_Main_goingAsThick_0 hK _ M ?_
  have key : ∀ k, k ≤ tn t → K NN RRC 4 [(0, vr 1), (1, vi x), (2, vi (sm (cnS (N 34) x) k)), (3, vi (k : Int))] [] M := by
    refine up_ind ?_ ?_
    · refine w_Main_goingAsThick_4 hK _ _ _ M ⟨tb, hT.2.1, at_tb hT.1, ?_⟩
      rw [hT.2.2.2.1.1.1]
      exact ⟨by omega, by omega, fun _ => ⟨rfl, rfl⟩, fun z => absurd (Int.le_refl _) z⟩
    · intro k hk ih
      have ih1 : cnS (N 34) x k = 0 → K NN RRC 4 [(0, vr 1), (1, vi x), (2, vi (sm (cnS (N 34) x) k)), (3, vi ((k : Int) + 1))] [] M := fun e => by
        have e2 : sm (cnS (N 34) x) (k + 1) = sm (cnS (N 34) x) k := by show _ + _ = _; rw [e]; omega
        rw [e2] at ih; exact ih
      have ih2 : cnS (N 34) x k = 1 → K NN RRC 4 [(0, vr 1), (1, vi x), (2, vi (sm (cnS (N 34) x) k + 1)), (3, vi ((k : Int) + 1))] [] M := fun e => by
        have e2 : sm (cnS (N 34) x) (k + 1) = sm (cnS (N 34) x) k + 1 := by show _ + _ = _; rw [e]
        rw [e2] at ih; exact ih
      have w5 := hN.2.2.2.2.2.1 k hk
      refine w_Main_goingAsThick_4 hK _ _ _ M ⟨tb, hT.2.1, at_tb hT.1, ?_⟩
      rw [hT.2.2.2.1.1.1]
      refine ⟨by omega, by omega, fun z => by omega, fun _ => ⟨_, c_goes atC_42 hN.1 hN.2 (by omega), ?_⟩⟩
      rintro r M1 ⟨rfl, rfl⟩
      refine ⟨zo_rng _, fun z => ih1 ?_, fun z => ⟨by omega, ?_⟩⟩
      · unfold cnS; rw [if_neg (fun q => by simp [zo_0 z] at q)]
      · have e43 : M1 43 k = N 34 (12 + k) := (hN.1.2 k hk).2.1
        rw [Int.toNat_natCast, e43]
        refine ⟨by omega, hx, fun y => ih1 ?_, fun y => ih2 ?_⟩
        · unfold cnS; rw [if_neg (fun q => by omega)]
        · unfold cnS; rw [if_pos ⟨zo_ne z, by omega⟩]
  exact key 0 (by omega)
theorem share_pos {t : TT} {B : Nat} {σ : Nat → Int} {w : Int} {h : Nat} (hw : WF (tn t) B σ) (hh : h < tn t) (hg : gosB σ h = true) (hl : w ≤ σ (12 + h)) : 0 < sm (cnS σ w) (tn t) :=
  sm_pos (fun i => (cnS_in σ w i).1) hh (by unfold cnS; rw [if_pos ⟨hg, hl⟩]; omega)
theorem c_share {t : TT} {tb B : Nat} {M N : Mm} {h : Nat} (hh : h < tn t) (hg : gosB (N 34) h = true) (hs : Sim t tb B M N) : S_Main_share (h : Int) M (PC tb M (shrS (tn t) (N 34) (N 34 (12 + h)).toNat)) := by
  have hs0 := hs
  obtain ⟨hW, hT, hS, hN, -⟩ := hs
  have hn := hW.1
  have w5 := hN.2.2.2.2.2.1 h hh
  refine e_Main_share _ M fun K hK => w_Main_share_0 hK _ M ⟨_, c_isGoing (by omega) hs0, ?_⟩
  rintro r M1 ⟨rfl, rfl⟩
  refine ⟨zo_rng _, fun _ => ?_, fun z => by simp [hg] at z; omega⟩
  have e43 : M1 43 h = N 34 (12 + h) := (hN.1.2 h hh).2.1
  have key : ∀ k, k ≤ (N 34 (12 + h)).toNat → K NN RRC 14 [(0, vr 1), (1, vi (h : Int)), (2, vi (shrS (tn t) (N 34) k)), (3, vi ((k : Int) + 1))] [] M1 := by
    refine up_ind ?_ ?_
    · refine w_Main_share_14 hK _ _ _ M1 ?_
      rw [Int.toNat_natCast, e43]
      exact ⟨by omega, by omega, by omega, fun _ => ⟨rfl, FrC.rf⟩, fun z => by omega⟩
    · intro k hk ih
      refine w_Main_share_14 hK _ _ _ M1 ?_
      rw [Int.toNat_natCast, e43]
      refine ⟨by omega, by omega, by omega, fun z => by omega, fun _ => ⟨_, c_goingAsThick (by omega) hs0, ?_⟩⟩
      rintro r M2 ⟨rfl, rfl⟩
      have hp := share_pos (w := (k : Int) + 1) hN.2 hh hg (by omega)
      have hl := sm_in (cnS_in (N 34) ((k : Int) + 1)) (tn t)
      exact ⟨by omega, fun z => by omega, fun _ => ⟨by omega, by omega, ih⟩⟩
  exact key 0 (by omega)
theorem m_share {t : TT} {tb B : Nat} {M N : Mm} {h : Nat} (hh : h < tn t) (hg : gosB (N 34) h = true) (hs : Sim t tb B M N) : S_Mod_share (h : Int) N (PN N (shrS (tn t) (N 34) (N 34 (12 + h)).toNat)) := by
  obtain ⟨hW, hT, hS, hN, -⟩ := hs
  have hn := hW.1
  have w5 := hN.2.2.2.2.2.1 h hh
  have hT1 := hT.2.2.2.2.1.thr
  refine e_Mod_share _ N fun K hK => w_Mod_share_0 hK _ N ?_
  intro N1 h1
  rw [← h1] at hT1
  have e34 : N1 34 = N 34 := by rw [h1, s34]
  refine ⟨_, m_isHouse (by omega) hT1 hW, ?_⟩
  rintro r N2 ⟨rfl, rfl⟩
  refine ⟨zo_rng _, fun z => by simp at z; omega, fun _ => ⟨_, m_isGoing e34 hN.2 (by omega), ?_⟩⟩
  rintro r N3 ⟨rfl, rfl⟩
  refine ⟨zo_rng _, fun _ => ?_, fun z => by simp [hg] at z⟩
  have th : ((12 : Int) + h).toNat = 12 + h := by omega
  have e3 : N3 3 0 = (tn t : Int) := hT1.1.1
  have key : ∀ k, k ≤ (N 34 (12 + h)).toNat → K NM RRM 27 [(0, vr 1), (1, vi (h : Int)), (2, vi (shrS (tn t) (N 34) k)), (3, vi ((k : Int) + 1))] [] N3 := by
    refine up_ind ?_ ?_
    · refine w_Mod_share_27 hK _ _ _ N3 ?_
      rw [th, e34]
      exact ⟨by omega, by omega, by omega, fun _ => ⟨rfl, by rw [h1]; exact thrM, fun i _ => by rw [e34]⟩, fun z => by omega⟩
    · intro k hk ih
      refine w_Mod_share_27 hK _ _ _ N3 ?_
      rw [th, e34]
      refine ⟨by omega, by omega, by omega, fun z => by omega, fun _ => ?_⟩
      have hp := share_pos (w := (k : Int) + 1) hN.2 hh hg (by omega)
      have hl := sm_in (cnS_in (N 34) ((k : Int) + 1)) (tn t)
      have k2 : ∀ j, j ≤ tn t → K NM RRM 46 [(0, vr 1), (1, vi (h : Int)), (2, vi (shrS (tn t) (N 34) k)), (3, vi ((k : Int) + 1)), (4, vi (sm (cnS (N 34) ((k : Int) + 1)) j)), (5, vi (j : Int))] [] N3 := by
        refine up_ind ?_ ?_
        · refine w_Mod_share_46 hK _ _ _ _ _ N3 ?_
          rw [e3]
          exact ⟨by omega, by omega, fun _ => ⟨by omega, by omega, ih⟩, fun z => absurd (Int.le_refl _) z⟩
        · intro j hj ih
          have ih1 : cnS (N 34) ((k : Int) + 1) j = 0 → K NM RRM 46 [(0, vr 1), (1, vi (h : Int)), (2, vi (shrS (tn t) (N 34) k)), (3, vi ((k : Int) + 1)), (4, vi (sm (cnS (N 34) ((k : Int) + 1)) j + 0)), (5, vi ((j : Int) + 1))] [] N3 := fun e => by
            have e2 : sm (cnS (N 34) ((k : Int) + 1)) (j + 1) = sm (cnS (N 34) ((k : Int) + 1)) j + 0 := by show _ + _ = _; rw [e]
            rw [e2] at ih; exact ih
          have ih2 : cnS (N 34) ((k : Int) + 1) j = 1 → K NM RRM 46 [(0, vr 1), (1, vi (h : Int)), (2, vi (shrS (tn t) (N 34) k)), (3, vi ((k : Int) + 1)), (4, vi (sm (cnS (N 34) ((k : Int) + 1)) j + 1)), (5, vi ((j : Int) + 1))] [] N3 := fun e => by
            have e2 : sm (cnS (N 34) ((k : Int) + 1)) (j + 1) = sm (cnS (N 34) ((k : Int) + 1)) j + 1 := by show _ + _ = _; rw [e]
            rw [e2] at ih; exact ih
          have v5 := hN.2.2.2.2.2.1 j hj
          refine w_Mod_share_46 hK _ _ _ _ _ N3 ?_
          rw [e3]
          refine ⟨by omega, by omega, fun z => by omega, fun _ => ⟨_, m_isGoing e34 hN.2 (by omega), ?_⟩⟩
          rintro r N4 ⟨rfl, rfl⟩
          refine ⟨zo_rng _, fun z => ih1 ?_, fun z => ⟨by omega, ?_⟩⟩
          · unfold cnS; rw [if_neg (fun q => by simp [zo_0 z] at q)]
          · rw [show ((12 : Int) + j).toNat = 12 + j by omega, e34]
            refine ⟨by omega, by omega, fun y => ih1 ?_, fun y => ih2 ?_⟩
            · unfold cnS; rw [if_neg (fun q => by omega)]
            · unfold cnS; rw [if_pos ⟨zo_ne z, by omega⟩]
      exact k2 0 (by omega)
  exact key 0 (by omega)
theorem op_share {t : TT} {tb B : Nat} {M N : Mm} {x : Int} (hx : rng x) (h : Sim t tb B M N) : Op (S_Main_share x) (S_Mod_share x) B M N := by
  by_cases q : (0 ≤ x ∧ x < tn t) ∧ gosB (N 34) x.toNat = true
  · obtain ⟨k, rfl⟩ : ∃ k : Nat, x = (k : Int) := ⟨x.toNat, by omega⟩
    rw [Int.toNat_natCast] at q
    exact Op.ask h (c_share (by omega) q.2 h) (m_share (by omega) q.2 h)
  · refine Op.ask (v := -1) h ?_ ?_
    · refine e_Main_share _ M fun K hK => w_Main_share_0 hK _ M ⟨_, c_isGoing hx h, ?_⟩
      rintro r M1 ⟨rfl, rfl⟩
      refine ⟨zo_rng _, fun z => absurd (by simpa [Bool.and_eq_true, decide_eq_true_eq] using zo_ne z) q, fun _ => ⟨rfl, FrC.rf⟩⟩
    · obtain ⟨hW, hT, hS, hN, -⟩ := h
      have hn := hW.1
      have hT1 := hT.2.2.2.2.1.thr
      refine e_Mod_share _ N fun K hK => w_Mod_share_0 hK _ N ?_
      rintro N1 rfl
      refine ⟨_, m_isHouse hx hT1 hW, ?_⟩
      rintro r N2 ⟨rfl, rfl⟩
      refine ⟨zo_rng _, fun _ => ⟨rfl, thrM, fun i _ => by rw [s34]⟩, fun z => ?_⟩
      have z1 : 0 ≤ x ∧ x < tn t := by simpa using zo_ne z
      obtain ⟨k, rfl⟩ : ∃ k : Nat, x = (k : Int) := ⟨x.toNat, by omega⟩
      refine ⟨_, m_isGoing s34 hN.2 (by omega), ?_⟩
      rintro r N3 ⟨rfl, rfl⟩
      refine ⟨zo_rng _, fun y => absurd ⟨z1, by rw [Int.toNat_natCast]; exact zo_ne y⟩ q, fun _ => ⟨rfl, thrM, fun i _ => by rw [s34]⟩⟩
