theorem sm_ext {f g : Nat → Int} : ∀ {n : Nat}, (∀ i, i < n → f i = g i) → sm f n = sm g n
  | 0, _ => rfl
  | n + 1, h => by
    have := sm_ext (n := n) (fun i hi => h i (by omega))
    rw [sm, sm, this, h n (by omega)]
theorem sm_chg {f g : Nat → Int} {i : Nat} : ∀ {n : Nat}, i < n → (∀ j, j < n → j ≠ i → g j = f j) → sm g n = sm f n - f i + g i
  | 0, h, _ => by omega
  | n + 1, h, e => by
    rw [sm, sm]
    by_cases c : i = n
    · subst c
      rw [sm_ext (f := g) (g := f) (fun j hj => e j (by omega) (by omega))]
      omega
    · rw [sm_chg (n := n) (by omega) (fun j hj hji => e j (by omega) hji), e n (by omega) (fun z => c z.symm)]
      omega
theorem sm_perm : ∀ (n : Nat) (o : Nat → Nat), (∀ i, i < n → o i < n) → (∀ a b, a < n → b < n → o a = o b → a = b) → ∀ f : Nat → Int, sm (fun p => f (o p)) n = sm f n
  | 0, _, _, _, _ => rfl
  | n + 1, o, ho, hi, f => by
    by_cases hm : o n = n
    · rw [sm, sm, hm, sm_perm n o (fun i hlt => by
        have h1 := ho i (by omega)
        have h2 : o i ≠ n := fun e => by have := hi i n (by omega) (by omega) (e.trans hm.symm); omega
        omega) (fun a b ha hb e => hi a b (by omega) (by omega) e) f]
    · obtain ⟨i, h1, h2⟩ := surj_inj (n + 1) o ho hi n (by omega)
      have hin : i ≠ n := fun e => hm (by rw [e] at h2; exact h2)
      have hlt := ho n (by omega)
      have r := sm_perm n (fun j => if j = i then o n else o j) (fun j hj => by
          have h3 := ho j (by omega)
          show (if j = i then o n else o j) < n
          split
          · omega
          · rename_i c
            have : o j ≠ n := fun e => c (hi j i (by omega) (by omega) (e.trans h2.symm))
            omega)
        (fun a b ha hb e => by
          split at e <;> split at e
          · omega
          · have := hi n b (by omega) (by omega) e; omega
          · have := hi a n (by omega) (by omega) e; omega
          · exact hi a b (by omega) (by omega) e) f
      have c := sm_chg (f := fun p => f (o p)) (g := fun p => f (if p = i then o n else o p)) (n := n) (i := i) (by omega) (fun j hj hji => by simp [hji])
      simp only [if_true] at c
      rw [sm, sm]
      rw [r, h2] at c
      omega
/-- who is ahead of what comes at place k -/
def ahd (t : TT) (σ : Nat → Int) : Nat → Int
  | 0 => -1
  | k + 1 => if gosB σ (σ (5 + k)).toNat = true ∧ tkind t (σ (5 + k)).toNat ≠ 3 then σ (5 + k) else ahd t σ k
theorem ahd_in {t : TT} {B : Nat} {σ : Nat → Int} (hw : WF (tn t) B σ) : ∀ k, k ≤ tn t → (ahd t σ k = -1 ∨ (0 ≤ ahd t σ k ∧ ahd t σ k < tn t))
  | 0, _ => Or.inl rfl
  | k + 1, hk => by
    have w5 := hw.2.2.2.2.1 k (by omega)
    unfold ahd
    split
    · right; omega
    · exact ahd_in hw k (by omega)
theorem c_nextAhead {t : TT} {B : Nat} {σ : Nat → Int} {M : Mm} {b b1 h p : Nat} (hb : At shC NN b (.inl 5)) (hb1 : At shC NN b1 (.inl 7)) (hT : RT t M b1) (hW : WT t) (hS : RS (tn t) σ M b) (hw : WF (tn t) B σ) (hp : p < tn t) (hh : σ (5 + p) = (h : Int)) :
    S_State_nextAhead b b1 (h : Int) M (fun r M' => M' = M ∧ r = ahd t σ p) := by
  have hn := hW.1
  have w5p := hw.2.2.2.2.1 p hp
  refine e_State_nextAhead b b1 _ M fun K hK => w_State_nextAhead_0 hK b hb b1 hb1 _ M ?_
  have key : ∀ k, k ≤ p → K NN RRC 5 [(0, vr b), (1, vr b1), (2, vi (h : Int)), (3, vi (ahd t σ k)), (4, vi (k : Int))] [] M := by
    refine up_ind ?_ ?_
    · refine w_State_nextAhead_5 hK b hb b1 hb1 _ _ _ M ?_
      rw [hT.1.1, Int.toNat_natCast, (hS.2 p hp).1, hh]
      exact ⟨by omega, by omega, fun q => by omega, fun q => ⟨by omega, by omega, by omega, fun _ => ⟨rfl, rfl⟩, fun q => absurd rfl q⟩⟩
    · intro k hk ih
      have w5k := hw.2.2.2.2.1 k (by omega)
      refine w_State_nextAhead_5 hK b hb b1 hb1 _ _ _ M ?_
      obtain ⟨o, ho⟩ : ∃ o : Nat, σ (5 + k) = (o : Int) := ⟨(σ (5 + k)).toNat, by omega⟩
      rw [hT.1.1, Int.toNat_natCast, (hS.2 k (by omega)).1, ho]
      refine ⟨by omega, by omega, fun q => by omega, fun q => ⟨by omega, by omega, by omega, fun q => ?_, fun q => ⟨by omega, _, c_goes hb hS hw (by omega), ?_⟩⟩⟩
      · have := hw.2.2.2.2.2 k p (by omega) hp (by rw [ho, hh]; exact q); omega
      · rintro r M1 ⟨rfl, rfl⟩
        rw [ahd, ho, Int.toNat_natCast] at ih
        refine ⟨zo_rng _, fun q2 => ?_, fun q2 => ⟨by omega, ?_⟩⟩
        · have g : ¬ gosB σ o = true := by simpa using q2
          rw [if_neg (fun z => g z.1)] at ih
          exact ih
        · have g : gosB σ o = true := by simpa using q2
          rw [(hS.2 k (by omega)).1, ho]
          refine ⟨_, c_isCat hb1 hT hW (by omega), ?_⟩
          rintro r M2 ⟨rfl, rfl⟩
          refine ⟨zo_rng _, fun q3 => ?_, fun q3 => ⟨by omega, ?_⟩⟩
          · have g3 : tkind t o = 3 := by simpa using q3
            rw [if_neg (fun z => z.2 g3)] at ih
            exact ih
          · have g3 : ¬ tkind t o = 3 := by simpa using q3
            rw [if_pos ⟨g, g3⟩] at ih
            rw [(hS.2 k (by omega)).1, ho]
            exact ih
  exact key 0 (by omega)
theorem m_aheadOf {t : TT} {B : Nat} {σ : Nat → Int} {N : Mm} {h p : Nat} (hT : RM t N) (hW : WT t) (hS : N 34 = σ) (hw : WF (tn t) B σ) (hp : p < tn t) (hh : σ (5 + p) = (h : Int)) :
    S_Mod_aheadOf (h : Int) N (fun r N' => N' = N ∧ r = ahd t σ p) := by
  have hn := hW.1
  have w5p := hw.2.2.2.2.1 p hp
  refine e_Mod_aheadOf _ N fun K hK => w_Mod_aheadOf_0 hK _ N ?_
  have key : ∀ k, k ≤ p → K NM RRM 4 [(0, vr 1), (1, vi (h : Int)), (2, vi (ahd t σ k)), (3, vi (k : Int))] [] N := by
    refine up_ind ?_ ?_
    · refine w_Mod_aheadOf_4 hK _ _ _ N ?_
      rw [hT.1.1, show ((5 : Int) + (p : Int)).toNat = 5 + p by omega, hS, hh]
      exact ⟨by omega, by omega, fun q => by omega, fun q => ⟨by omega, by omega, by omega, fun q => absurd rfl q, fun _ => ⟨rfl, rfl⟩⟩⟩
    · intro k hk ih
      have w5k := hw.2.2.2.2.1 k (by omega)
      refine w_Mod_aheadOf_4 hK _ _ _ N ?_
      obtain ⟨o, ho⟩ : ∃ o : Nat, σ (5 + k) = (o : Int) := ⟨(σ (5 + k)).toNat, by omega⟩
      rw [hT.1.1, show ((5 : Int) + (k : Int)).toNat = 5 + k by omega, hS, ho]
      refine ⟨by omega, by omega, fun q => by omega, fun q => ⟨by omega, by omega, by omega, fun q => ⟨_, m_isGoing hS hw (by omega), ?_⟩, fun q => ?_⟩⟩
      · rintro r N1 ⟨rfl, rfl⟩
        rw [ahd, ho, Int.toNat_natCast] at ih
        have hk9 := hW.2.1 o (by omega)
        refine ⟨zo_rng _, fun q2 => ?_, fun q2 => ?_⟩
        · have g : ¬ gosB σ o = true := by simpa using q2
          rw [if_neg (fun z => g z.1)] at ih
          exact ih
        · have g : gosB σ o = true := by simpa using q2
          rw [Int.toNat_natCast, (hT.2.1 o (by omega)).1]
          refine ⟨by omega, by omega, fun g3 => ?_, fun g3 => ?_⟩
          · rw [if_neg (fun z => z.2 g3)] at ih
            exact ih
          · rw [if_pos ⟨g, g3⟩] at ih
            exact ih
      · have := hw.2.2.2.2.2 k p (by omega) hp (by rw [ho, hh]; exact q); omega
  exact key 0 (by omega)
/-- of the house at place p: does it go behind one that it shuns -/
def shP (t : TT) (σ : Nat → Int) (p : Nat) : Int := if gosB σ (σ (5 + p)).toNat = true ∧ ahd t σ p ≠ -1 ∧ shB t (σ (5 + p)).toNat (ahd t σ p).toNat = true then 1 else 0
def shN (t : TT) (σ : Nat → Int) : Int := sm (shP t σ) (tn t)
theorem shP_in (t : TT) (σ : Nat → Int) (p : Nat) : 0 ≤ shP t σ p ∧ shP t σ p ≤ 1 := by unfold shP; split <;> omega
theorem sm_in {f : Nat → Int} (h : ∀ i, 0 ≤ f i ∧ f i ≤ 1) : ∀ n : Nat, 0 ≤ sm f n ∧ sm f n ≤ n
  | 0 => by simp [sm]
  | n + 1 => by have := sm_in h n; have := h n; rw [sm]; omega
theorem ahd_cat {t : TT} {σ : Nat → Int} {k o : Nat} (ho : σ (5 + k) = (o : Int)) (hg : gosB σ o = true) : ahd t σ (k + 1) = if tkind t o = 3 then ahd t σ k else (o : Int) := by
  rw [ahd, ho, Int.toNat_natCast]
  by_cases c : tkind t o = 3
  · rw [if_neg (fun z => z.2 c), if_pos c]
  · rw [if_pos ⟨hg, c⟩, if_neg c]
theorem c_shunnedBy {t : TT} {B : Nat} {σ : Nat → Int} {M : Mm} {b b1 : Nat} (hb : At shC NN b (.inl 5)) (hb1 : At shC NN b1 (.inl 7)) (hT : RT t M b1) (hW : WT t) (hS : RS (tn t) σ M b) (hw : WF (tn t) B σ) :
    S_State_shunnedBy b b1 M (fun r M' => M' = M ∧ r = shN t σ) := by
  have hn := hW.1
  refine e_State_shunnedBy b b1 M fun K hK => w_State_shunnedBy_0 hK b hb b1 hb1 M ?_
  have key : ∀ k, k ≤ tn t → K NN RRC 7 [(0, vr b), (1, vr b1), (2, vi (sm (shP t σ) k)), (3, vi (ahd t σ k)), (4, vi (k : Int))] [] M := by
    refine up_ind ?_ ?_
    · refine w_State_shunnedBy_7 hK b hb b1 hb1 _ _ _ M ?_
      rw [hT.1.1]
      exact ⟨by omega, by omega, fun _ => ⟨rfl, rfl⟩, fun q => absurd (Int.le_refl _) q⟩
    · intro k hk ih
      have w5k := hw.2.2.2.2.1 k hk
      have ha := ahd_in hw k (by omega)
      refine w_State_shunnedBy_7 hK b hb b1 hb1 _ _ _ M ?_
      obtain ⟨o, ho⟩ : ∃ o : Nat, σ (5 + k) = (o : Int) := ⟨(σ (5 + k)).toNat, by omega⟩
      rw [hT.1.1, Int.toNat_natCast, (hS.2 k hk).1, ho]
      refine ⟨by omega, by omega, fun q => by omega, fun q => ⟨by omega, _, c_goes hb hS hw (by omega), ?_⟩⟩
      rintro r M1 ⟨rfl, rfl⟩
      refine ⟨zo_rng _, fun q2 => ?_, fun q2 => ?_⟩
      · have g : ¬ gosB σ o = true := by simpa using q2
        have e1 : ahd t σ (k + 1) = ahd t σ k := by rw [ahd, ho, Int.toNat_natCast, if_neg (fun z => g z.1)]
        have e2 : shP t σ k = 0 := by unfold shP; rw [ho, Int.toNat_natCast, if_neg (fun z => g z.1)]
        rw [sm, e1, e2, Int.add_zero] at ih
        exact ih
      · have g : gosB σ o = true := by simpa using q2
        have k55 : ∀ z : Int, z = shP t σ k → K NN RRC 55 [(0, vr b), (1, vr b1), (3, vi (ahd t σ k)), (4, vi (k : Int)), (5, vi (o : Int))] [vi z, vi (sm (shP t σ) k)] M1 := by
          intro z hz
          refine w_State_shunnedBy_55 hK b hb b1 hb1 _ _ _ _ _ M1 ?_
          refine ⟨_, c_isCat hb1 hT hW (by omega), ?_⟩
          rintro r M2 ⟨rfl, rfl⟩
          rw [sm, ahd_cat ho g, ← hz] at ih
          refine ⟨zo_rng _, fun q3 => ?_, fun q3 => ?_⟩
          · have g3 : ¬ tkind t o = 3 := by simpa using q3
            rw [if_neg g3] at ih; exact ih
          · have g3 : tkind t o = 3 := by simpa using q3
            rw [if_pos g3] at ih; exact ih
        refine ⟨by omega, fun q3 => k55 _ ?_, fun q3 => ?_⟩
        · unfold shP; rw [if_neg (fun z => z.2.1 q3)]
        · obtain ⟨a, haa⟩ : ∃ a : Nat, ahd t σ k = (a : Int) := ⟨(ahd t σ k).toNat, by omega⟩
          rw [haa]
          refine ⟨_, c_doesShun hb1 hT hW (by omega) (by omega), ?_⟩
          rintro r M2 ⟨rfl, rfl⟩
          rw [← haa]
          have es : shP t σ k = zo (shB t o a) := by
            unfold shP
            rw [ho, haa, Int.toNat_natCast, Int.toNat_natCast]
            cases hq : shB t o a
            · simp
            · simp [g]
          refine ⟨zo_rng _, fun q4 => k55 _ ?_, fun q4 => k55 _ ?_⟩
          · rw [es]; exact q4.symm
          · rw [es]
            cases hq : shB t o a
            · simp [hq] at q4
            · rfl
  exact key 0 (by omega)
