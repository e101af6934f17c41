theorem m_laysAt {t : TT} {B : Nat} {σ : Nat → Int} {N : Mm} {h f p : Nat} (hT : RM t N) (hW : WT t) (hS : N 34 = σ) (hw : WF (tn t) B σ) (hf : f < tn t) (hh : σ (5 + f) = (h : Int)) (hp : p < tn t) :
    S_Mod_laysAt (h : Int) (p : Int) N (fun N' => N' 34 = mv σ f p ∧ FrM (fun c => c = 34) (fun _ => False) N N') := by
  have hn := hW.1
  refine e_Mod_laysAt _ _ N fun K hK => w_Mod_laysAt_0 hK _ _ N ?_
  refine ⟨_, m_placeOf hS hw hn hf hh, ?_⟩
  rintro r N1 ⟨rfl, rfl⟩
  have n3 : ∀ N2 : Mm, FrM (fun c => c = 34) (fun _ => False) N1 N2 → N2 3 0 = tn t := fun N2 h2 => by rw [h2.1 3 (by omega) (by omega)]; exact hT.1.1
  have k58 : ∀ k, k < tn t → p ≤ k → ∀ N2 : Mm, (∀ i, N2 34 i = if 5 + k < i ∧ i < 5 + tn t then (if i - 1 < 5 + f then σ (i - 1) else σ i) else if 5 + f ≤ i ∧ i < 5 + (tn t - 1) then σ (i + 1) else σ i) → FrM (fun c => c = 34) (fun _ => False) N1 N2 → K NM RRM 58 [(0, vr 1), (1, vi (h : Int)), (2, vi (p : Int)), (4, vi (k : Int))] [] N2 := by
    intro k
    induction k with
    | zero =>
      intro hk hpk N2 h2 f2
      refine w_Mod_laysAt_58 hK _ _ _ N2 ?_
      refine ⟨by omega, by omega, fun q => ⟨by omega, ?_⟩, fun q => by omega⟩
      rintro N3 rfl
      refine ⟨?_, f2.tr (FrM.up rfl (by omega))⟩
      funext i
      rw [upr_eq, if_pos rfl, up1_eq, show ((5 : Int) + (p : Int)).toNat = 5 + p by omega]
      by_cases c : 5 ≤ i ∧ i < 12
      · obtain ⟨q, rfl⟩ : ∃ q, i = 5 + q := ⟨i - 5, by omega⟩
        rw [mv_at (by omega)]
        unfold src
        by_cases e : q = p
        · rw [if_pos (by omega), if_pos e]; exact hh.symm
        · rw [if_neg (by omega), if_neg e, h2]
          by_cases c1 : 5 + 0 < 5 + q ∧ 5 + q < 5 + tn t
          · rw [if_pos c1]
            by_cases c2 : 5 + q - 1 < 5 + f
            · rw [if_pos c2, if_neg (by omega), if_pos (by omega)]; congr 1; omega
            · rw [if_neg c2, if_neg (by omega), if_neg (by omega)]
          · rw [if_neg c1, if_neg (by omega), if_neg (by omega), if_neg (by omega)]
      · rw [mv_out c, if_neg (by omega), h2, if_neg (by omega), if_neg (by omega)]
    | succ k ih =>
      intro hk hpk N2 h2 f2
      refine w_Mod_laysAt_58 hK _ _ _ N2 ?_
      refine ⟨by omega, by omega, fun q => ⟨by omega, ?_⟩, fun q => ⟨by omega, by omega, ?_⟩⟩
      · rintro N3 rfl
        refine ⟨?_, f2.tr (FrM.up rfl (by omega))⟩
        funext i
        rw [upr_eq, if_pos rfl, up1_eq, show ((5 : Int) + (p : Int)).toNat = 5 + p by omega]
        by_cases c : 5 ≤ i ∧ i < 12
        · obtain ⟨q, rfl⟩ : ∃ q, i = 5 + q := ⟨i - 5, by omega⟩
          rw [mv_at (by omega)]
          unfold src
          by_cases e : q = p
          · rw [if_pos (by omega), if_pos e]; exact hh.symm
          · rw [if_neg (by omega), if_neg e, h2]
            by_cases c1 : 5 + (k + 1) < 5 + q ∧ 5 + q < 5 + tn t
            · rw [if_pos c1]
              by_cases c2 : 5 + q - 1 < 5 + f
              · rw [if_pos c2, if_neg (by omega), if_pos (by omega)]; congr 1; omega
              · rw [if_neg c2, if_neg (by omega), if_neg (by omega)]
            · rw [if_neg c1]
              by_cases c2 : 5 + f ≤ 5 + q ∧ 5 + q < 5 + (tn t - 1)
              · rw [if_pos c2, if_pos (by omega)]; rfl
              · rw [if_neg c2, if_neg (by omega), if_neg (by omega)]
        · rw [mv_out c, if_neg (by omega), h2, if_neg (by omega), if_neg (by omega)]
      · rintro N3 rfl
        have e1 : ((k + 1 : Nat) : Int) + (-1) = (k : Int) := by omega
        rw [e1]
        refine ih (by omega) (by omega) _ (fun i => ?_) (f2.tr (FrM.up rfl (by omega)))
        rw [upr_eq, if_pos rfl, up1_eq, show ((5 : Int) + ((k + 1 : Nat) : Int)).toNat = 5 + (k + 1) by omega, show ((5 : Int) + ((k + 1 : Nat) : Int) - 1).toNat = 5 + k by omega]
        by_cases e : i = 5 + (k + 1)
        · subst e
          rw [if_pos rfl, h2]
          simp only [if_neg (show ¬ (5 + (k + 1) < 5 + k ∧ 5 + k < 5 + tn t) by omega), if_pos (show 5 + k < 5 + (k + 1) ∧ 5 + (k + 1) < 5 + tn t by omega), show 5 + (k + 1) - 1 = 5 + k by omega]
          by_cases c2 : 5 + k < 5 + f
          · simp only [if_pos c2, if_neg (show ¬ (5 + f ≤ 5 + k ∧ 5 + k < 5 + (tn t - 1)) by omega)]
          · simp only [if_neg c2, if_pos (show 5 + f ≤ 5 + k ∧ 5 + k < 5 + (tn t - 1) by omega)]
            rfl
        · rw [if_neg e, h2]
          by_cases c1 : 5 + (k + 1) < i ∧ i < 5 + tn t
          · simp only [if_pos c1, if_pos (show 5 + k < i ∧ i < 5 + tn t by omega)]
          · simp only [if_neg c1, if_neg (show ¬ (5 + k < i ∧ i < 5 + tn t) by omega)]
  have k9 : ∀ k, k ≤ tn t - 1 → f ≤ k → ∀ N2 : Mm, (∀ i, N2 34 i = if 5 + f ≤ i ∧ i < 5 + k then σ (i + 1) else σ i) → FrM (fun c => c = 34) (fun _ => False) N1 N2 → K NM RRM 9 [(0, vr 1), (1, vi (h : Int)), (2, vi (p : Int)), (4, vi (k : Int))] [] N2 := by
    refine up_ind ?_ ?_
    · intro hfk N2 h2 f2
      refine w_Mod_laysAt_9 hK _ _ _ N2 ?_
      rw [n3 N2 f2]
      refine ⟨by omega, by omega, fun _ => ?_, fun q => by omega⟩
      have e1 : ((tn t : Nat) : Int) - 1 = ((tn t - 1 : Nat) : Int) := by omega
      rw [e1]
      refine k58 (tn t - 1) (by omega) (by omega) N2 (fun i => ?_) f2
      rw [h2, if_neg (show ¬ (5 + (tn t - 1) < i ∧ i < 5 + tn t) by omega)]
    · intro k hk ih hfk N2 h2 f2
      refine w_Mod_laysAt_9 hK _ _ _ N2 ?_
      rw [n3 N2 f2]
      refine ⟨by omega, by omega, fun q => by omega, fun q => ⟨by omega, by omega, ?_⟩⟩
      rintro N3 rfl
      refine ih (by omega) _ (fun i => ?_) (f2.tr (FrM.up rfl (by omega)))
      rw [upr_eq, if_pos rfl, up1_eq, show ((5 : Int) + (k : Int)).toNat = 5 + k by omega, show ((5 : Int) + (k : Int) + 1).toNat = 5 + k + 1 by omega]
      by_cases e : i = 5 + k
      · rw [if_pos e, h2, if_neg (by omega), if_pos (by omega)]
        congr 1; omega
      · rw [if_neg e, h2]
        by_cases c1 : 5 + f ≤ i ∧ i < 5 + k
        · rw [if_pos c1, if_pos (by omega)]
        · rw [if_neg c1, if_neg (show ¬ (5 + f ≤ i ∧ i < 5 + (k + 1)) by omega)]
  exact k9 f (by omega) (by omega) N1 (fun i => by rw [if_neg (by omega), hS]) FrM.rf
