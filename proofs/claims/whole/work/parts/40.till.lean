def tilF (p : (Nat → Int) → Bool) (t : TT) : Nat → Nat → (Nat → Int) → Int
  | 0, _, _ => -1
  | f + 1, k, σ => if p σ = true then (k : Int) else tilF p t f (k + 1) (runS t σ)
theorem sm_le {f : Nat → Int} {c : Nat} : ∀ n : Nat, (∀ i, i < n → (0 ≤ f i ∧ f i ≤ (c : Int))) → 0 ≤ sm f n ∧ sm f n ≤ ((n * c : Nat) : Int)
  | 0, _ => by simp [sm]
  | n + 1, h => by
    have h1 := sm_le n (fun i hi => h i (by omega))
    have h2 := h n (by omega)
    show 0 ≤ sm f n + f n ∧ sm f n + f n ≤ _
    rw [Nat.succ_mul]
    omega
theorem wet_in {n B : Nat} {σ : Nat → Int} (hw : WF n B σ) (hn : n ≤ 7) : 0 ≤ sm (fun h => σ (19 + h)) n ∧ sm (fun h => σ (19 + h)) n ≤ 693 := by
  have := sm_le (f := fun h => σ (19 + h)) (c := 99) n (fun i hi => by have := hw.2.2.2.2.1 i hi; omega)
  have h2 : n * 99 ≤ 693 := by omega
  omega
abbrev tilP (n : Nat) (x : Int) : (Nat → Int) → Bool := fun σ => decide (x ≤ sm (fun h => σ (19 + h)) n)
abbrev dryP (n : Nat) (x : Int) : (Nat → Int) → Bool := fun σ => dryB σ x n
theorem scC_sub {tb : Nat} (c : Nat) (h : c = 61 ∨ c = tb + 10 ∨ c = tb + 13 ∨ inS 53 c) : scC tb c := by omega
theorem c_till {t : TT} {tb B : Nat} {M N : Mm} {x : Int} (hx : 1 ≤ x ∧ x ≤ 693) (hB : B < 100000) (h : Sim t tb B M N) : S_Main_till x M (PC tb M (tilF (tilP (tn t) x) t 100 0 (N 34))) := by
  obtain ⟨hW, hT, hS, hN, -⟩ := h
  have hn := hW.1
  have htb := hT.1
  refine e_Main_till _ M fun K hK => w_Main_till_0 hK _ M ⟨by omega, fun z => by omega, fun _ => ⟨by omega, fun _ => ?_, fun z => by omega⟩⟩
  refine ⟨_, c_copyFrom atC_53 atC_42 (by omega), ?_⟩
  rintro M1 ⟨hc, hf⟩
  have key : ∀ f k, k + f = 100 → ∀ (σ : Nat → Int) (M1 : Mm), RS (tn t) σ M1 53 → WF (tn t) (B + k) σ → RT t M1 tb → FrC (scC tb) M M1 → tilF (tilP (tn t) x) t f k σ = tilF (tilP (tn t) x) t 100 0 (N 34) → K NN RRC 30 [(0, vr 1), (1, vi x), (2, vi (k : Int))] [] M1 := by
    intro f
    induction f with
    | zero =>
      intro k hk σ M1 hS hw hR hF hv
      refine w_Main_till_30 hK _ _ M1 ⟨by omega, fun _ => ⟨hv, hF⟩, fun z => by omega⟩
    | succ f ih =>
      intro k hk σ M1 hS hw hR hF hv
      have hwi := wet_in hw hn
      have e1 : M1 1 = M 1 := hF 1 (by omega)
      refine w_Main_till_30 hK _ _ M1 ⟨by omega, fun z => by omega, fun _ => ⟨tb, by rw [e1]; exact hT.2.1, at_tb htb, ?_⟩⟩
      rw [hR.1.1]
      refine ⟨_, c_allWet atC_53 hS hn, ?_⟩
      rintro r M2 ⟨rfl, rfl⟩
      refine ⟨by omega, by omega, fun q => ⟨tb, by rw [e1]; exact hT.2.1, at_tb htb, _, c_drawThrough atC_61 (at_tb htb) atC_53 hR hW hS hw (by omega), ?_⟩, fun q => ⟨?_, hF⟩⟩
      · rintro M3 ⟨g1, g2, g3, g4, g5⟩
        refine ih (k + 1) (by omega) _ M3 g1 (runS_WF hW hw) g2 (hF.tr (g5.wk scC_sub)) ?_
        rw [← hv, tilF, if_neg (by simp; omega)]
      · rw [← hv, tilF, if_pos (by simp; omega)]
  exact key 100 0 rfl (N 34) M1 (hc _ _ hn hN.1) hN.2 (hT.2.2.2.1.fr (fun i _ _ => hf _ (by omega))) (hf.wk (fun c hc => by omega)) rfl
theorem c_dry {t : TT} {tb B : Nat} {M N : Mm} {x : Int} (hx : 0 ≤ x ∧ x ≤ 99) (hB : B < 100000) (h : Sim t tb B M N) : S_Main_dry x M (PC tb M (tilF (dryP (tn t) x) t 100 0 (N 34))) := by
  obtain ⟨hW, hT, hS, hN, -⟩ := h
  have hn := hW.1
  have htb := hT.1
  refine e_Main_dry _ M fun K hK => w_Main_dry_0 hK _ M ⟨by omega, fun z => by omega, fun _ => ⟨by omega, fun _ => ?_, fun z => by omega⟩⟩
  refine ⟨_, c_copyFrom atC_53 atC_42 (by omega), ?_⟩
  rintro M1 ⟨hc, hf⟩
  have key : ∀ f k, k + f = 100 → ∀ (σ : Nat → Int) (M1 : Mm), RS (tn t) σ M1 53 → WF (tn t) (B + k) σ → RT t M1 tb → FrC (scC tb) M M1 → tilF (dryP (tn t) x) t f k σ = tilF (dryP (tn t) x) t 100 0 (N 34) → K NN RRC 28 [(0, vr 1), (1, vi x), (2, vi (k : Int))] [] M1 := by
    intro f
    induction f with
    | zero =>
      intro k hk σ M1 hS hw hR hF hv
      refine w_Main_dry_28 hK _ _ M1 ⟨by omega, fun _ => ⟨hv, hF⟩, fun z => by omega⟩
    | succ f ih =>
      intro k hk σ M1 hS hw hR hF hv
      have e1 : M1 1 = M 1 := hF 1 (by omega)
      refine w_Main_dry_28 hK _ _ M1 ⟨by omega, fun z => by omega, fun _ => ⟨tb, by rw [e1]; exact hT.2.1, at_tb htb, ?_⟩⟩
      rw [hR.1.1]
      refine ⟨_, c_someGoesWithin atC_53 hS hw hn (by omega), ?_⟩
      rintro r M2 ⟨rfl, rfl⟩
      refine ⟨zo_rng _, fun q => ⟨tb, by rw [e1]; exact hT.2.1, at_tb htb, _, c_drawThrough atC_61 (at_tb htb) atC_53 hR hW hS hw (by omega), ?_⟩, fun q => ⟨?_, hF⟩⟩
      · rintro M3 ⟨g1, g2, g3, g4, g5⟩
        refine ih (k + 1) (by omega) _ M3 g1 (runS_WF hW hw) g2 (hF.tr (g5.wk scC_sub)) ?_
        rw [← hv, tilF, if_neg (by simp [zo_0 q])]
      · rw [← hv, tilF, if_pos (by simp [zo_ne q])]
  exact key 100 0 rfl (N 34) M1 (hc _ _ hn hN.1) hN.2 (hT.2.2.2.1.fr (fun i _ _ => hf _ (by omega))) (hf.wk (fun c hc => by omega)) rfl
abbrev cp33 (N : Mm) (a b : Nat) : Mm := upr N b (fun j => if 0 ≤ j ∧ j < 0 + 33 then N a (0 + (j - 0)) else N b j)
theorem cp33_in {N : Mm} {a b j : Nat} (hj : j < 33) : cp33 N a b b j = N a j := by
  unfold cp33; rw [upr_eq, if_pos rfl, if_pos (by omega)]; congr 1; omega
theorem scM_sub (c : Nat) (h : inW c ∨ c = 25 ∨ c = 34) : scM c := by omega
theorem scQ_sub (k : Nat) (h : k = 51) : scQ k := by omega
theorem m_till {t : TT} {tb B : Nat} {M N : Mm} {x : Int} (hx : 1 ≤ x ∧ x ≤ 693) (hB : B < 100000) (h : Sim t tb B M N) : S_Mod_till x N (PN N (tilF (tilP (tn t) x) t 100 0 (N 34))) := by
  obtain ⟨hW, hT, hS, hN, -⟩ := h
  have hn := hW.1
  refine e_Mod_till _ N fun K hK => w_Mod_till_0 hK _ N ?_
  rintro N1 rfl
  refine ⟨_, m_within (by omega) (by omega) (by omega), ?_⟩
  rintro r N2 ⟨rfl, rfl⟩
  refine ⟨zo_rng _, fun _ => ?_, fun z => by simp [hx] at z⟩
  refine ⟨_, m_copies (a := 0) (c := 0) atM_34 atM_35 (by omega) (by omega) (by omega) (by omega) (by omega), ?_⟩
  rintro N3 rfl
  have fin : ∀ (k : Nat) (v : Int), k ≤ 100 → v = (if k = 100 then -1 else (k : Int)) → v = tilF (tilP (tn t) x) t 100 0 (N 34) → ∀ N1 : Mm, (∀ i, i < 33 → N1 35 i = N 34 i) → FrM scM scQ N N1 → K NM RRM 60 [(0, vr 1), (2, vi (k : Int))] [] N1 := by
    intro k v hk h1 h2 N1 h35 hF
    refine w_Mod_till_60 hK _ N1 ⟨_, m_copies (a := 0) (c := 0) atM_35 atM_34 (by omega) (by omega) (by omega) (by omega) (by omega), ?_⟩
    rintro N4 rfl
    have g : FrM scM scQ N (cp33 N1 35 34) ∧ ∀ i, i < 33 → (cp33 N1 35 34) 34 i = N 34 i := ⟨hF.tr (FrM.up (Or.inr (Or.inl rfl)) (by omega)), fun i hi => by rw [cp33_in hi, h35 i hi]⟩
    refine ⟨by omega, fun q => ⟨?_, g⟩, fun q => ⟨?_, g⟩⟩
    · rw [← h2, h1, if_neg (by omega)]
    · rw [← h2, h1, if_pos (by omega)]
  have key : ∀ f k, k + f = 100 → ∀ (σ : Nat → Int) (N1 : Mm), N1 34 = σ → WF (tn t) (B + k) σ → RM t N1 → (∀ i, i < 33 → N1 35 i = N 34 i) → FrM scM scQ N N1 → tilF (tilP (tn t) x) t f k σ = tilF (tilP (tn t) x) t 100 0 (N 34) → K NM RRM 33 [(0, vr 1), (1, vi x), (2, vi (k : Int))] [] N1 := by
    intro f
    induction f with
    | zero =>
      intro k hk σ N1 hS hw hR h35 hF hv
      refine w_Mod_till_33 hK _ _ N1 ⟨by omega, fun _ => ?_, fun z => by omega⟩
      exact fin k (-1) (by omega) (by rw [if_pos (by omega)]) hv N1 h35 hF
    | succ f ih =>
      intro k hk σ N1 hS hw hR h35 hF hv
      have hwi := wet_in hw hn
      refine w_Mod_till_33 hK _ _ N1 ⟨by omega, fun z => by omega, fun _ => ⟨_, m_together (k0 := 19) hR hW hS (by omega), ?_⟩⟩
      rintro r N2 ⟨rfl, rfl⟩
      refine ⟨by omega, by omega, fun q => ?_, fun q => ⟨_, m_runs hR hW hS hw (by omega), ?_⟩⟩
      · refine fin k (k : Int) (by omega) (by rw [if_neg (by omega)]) ?_ _ h35 hF
        rw [← hv, tilF, if_pos (by simp; omega)]
      · rintro r N3 ⟨g1, g2, g3, g4⟩
        refine ih (k + 1) (by omega) _ N3 g2 (runS_WF hW hw) (hR.frM g4 (by omega) (fun c _ _ => by omega)) (fun i hi => by rw [g4.1 35 (by omega) (by omega)]; exact h35 i hi) (hF.tr (g4.wk scM_sub scQ_sub)) ?_
        rw [← hv, tilF, if_neg (by simp; omega)]
  refine key 100 0 rfl (N 34) _ ?_ hN.2 ?_ (fun i hi => ?_) ?_ rfl
  · rw [upr_eq, if_neg (by omega), s34]
  · exact hT.2.2.2.2.1.thr.fr (by rw [upr_eq, if_neg (by omega)]) (fun c _ _ => by rw [upr_eq, if_neg (by omega)])
  · have := cp33_in (N := upr N 1 (up1 (N 1) 0 0)) (a := 34) (b := 35) hi
    rw [s34] at this
    exact this
  · exact thrM.tr (FrM.up (Or.inr (Or.inr (Or.inl rfl))) (by omega))
theorem m_dry {t : TT} {tb B : Nat} {M N : Mm} {x : Int} (hx : 0 ≤ x ∧ x ≤ 99) (hB : B < 100000) (h : Sim t tb B M N) : S_Mod_dry x N (PN N (tilF (dryP (tn t) x) t 100 0 (N 34))) := by
  obtain ⟨hW, hT, hS, hN, -⟩ := h
  have hn := hW.1
  refine e_Mod_dry _ N fun K hK => w_Mod_dry_0 hK _ N ?_
  rintro N1 rfl
  refine ⟨_, m_within (by omega) (by omega) (by omega), ?_⟩
  rintro r N2 ⟨rfl, rfl⟩
  refine ⟨zo_rng _, fun _ => ?_, fun z => by simp [hx] at z⟩
  refine ⟨_, m_copies (a := 0) (c := 0) atM_34 atM_35 (by omega) (by omega) (by omega) (by omega) (by omega), ?_⟩
  rintro N3 rfl
  have fin : ∀ (k : Nat) (v : Int), k ≤ 100 → v = (if k = 100 then -1 else (k : Int)) → v = tilF (dryP (tn t) x) t 100 0 (N 34) → ∀ N1 : Mm, (∀ i, i < 33 → N1 35 i = N 34 i) → FrM scM scQ N N1 → K NM RRM 57 [(0, vr 1), (2, vi (k : Int))] [] N1 := by
    intro k v hk h1 h2 N1 h35 hF
    refine w_Mod_dry_57 hK _ N1 ⟨_, m_copies (a := 0) (c := 0) atM_35 atM_34 (by omega) (by omega) (by omega) (by omega) (by omega), ?_⟩
    rintro N4 rfl
    have g : FrM scM scQ N (cp33 N1 35 34) ∧ ∀ i, i < 33 → (cp33 N1 35 34) 34 i = N 34 i := ⟨hF.tr (FrM.up (Or.inr (Or.inl rfl)) (by omega)), fun i hi => by rw [cp33_in hi, h35 i hi]⟩
    refine ⟨by omega, fun q => ⟨?_, g⟩, fun q => ⟨?_, g⟩⟩
    · rw [← h2, h1, if_neg (by omega)]
    · rw [← h2, h1, if_pos (by omega)]
  have key : ∀ f k, k + f = 100 → ∀ (σ : Nat → Int) (N1 : Mm), N1 34 = σ → WF (tn t) (B + k) σ → RM t N1 → (∀ i, i < 33 → N1 35 i = N 34 i) → FrM scM scQ N N1 → tilF (dryP (tn t) x) t f k σ = tilF (dryP (tn t) x) t 100 0 (N 34) → K NM RRM 32 [(0, vr 1), (1, vi x), (2, vi (k : Int))] [] N1 := by
    intro f
    induction f with
    | zero =>
      intro k hk σ N1 hS hw hR h35 hF hv
      refine w_Mod_dry_32 hK _ _ N1 ⟨by omega, fun _ => ?_, fun z => by omega⟩
      exact fin k (-1) (by omega) (by rw [if_pos (by omega)]) hv N1 h35 hF
    | succ f ih =>
      intro k hk σ N1 hS hw hR h35 hF hv
      refine w_Mod_dry_32 hK _ _ N1 ⟨by omega, fun z => by omega, fun _ => ⟨_, m_isSomeDry hR hW hS hw (by omega), ?_⟩⟩
      rintro r N2 ⟨rfl, rfl⟩
      refine ⟨zo_rng _, fun q => ?_, fun q => ⟨_, m_runs hR hW hS hw (by omega), ?_⟩⟩
      · refine fin k (k : Int) (by omega) (by rw [if_neg (by omega)]) ?_ _ h35 hF
        rw [← hv, tilF, if_pos (by simp [zo_ne q])]
      · rintro r N3 ⟨g1, g2, g3, g4⟩
        refine ih (k + 1) (by omega) _ N3 g2 (runS_WF hW hw) (hR.frM g4 (by omega) (fun c _ _ => by omega)) (fun i hi => by rw [g4.1 35 (by omega) (by omega)]; exact h35 i hi) (hF.tr (g4.wk scM_sub scQ_sub)) ?_
        rw [← hv, tilF, if_neg (by simp [zo_0 q])]
  refine key 100 0 rfl (N 34) _ ?_ hN.2 ?_ (fun i hi => ?_) ?_ rfl
  · rw [upr_eq, if_neg (by omega), s34]
  · exact hT.2.2.2.2.1.thr.fr (by rw [upr_eq, if_neg (by omega)]) (fun c _ _ => by rw [upr_eq, if_neg (by omega)])
  · have := cp33_in (N := upr N 1 (up1 (N 1) 0 0)) (a := 34) (b := 35) hi
    rw [s34] at this
    exact this
  · exact thrM.tr (FrM.up (Or.inr (Or.inr (Or.inl rfl))) (by omega))
theorem op_till {t : TT} {tb B : Nat} {M N : Mm} {x : Int} (hx : rng x) (hB : B < 100000) (h : Sim t tb B M N) : Op (S_Main_till x) (S_Mod_till x) B M N := by
  by_cases q : 1 ≤ x ∧ x ≤ 693
  · exact Op.ask h (c_till q hB h) (m_till q hB h)
  · refine Op.ask (v := -1) h ?_ ?_
    · exact e_Main_till _ M fun K hK => w_Main_till_0 hK _ M ⟨hx, fun _ => ⟨rfl, FrC.rf⟩, fun _ => ⟨hx, fun z => by omega, fun _ => ⟨rfl, FrC.rf⟩⟩⟩
    · refine e_Mod_till _ N fun K hK => w_Mod_till_0 hK _ N ?_
      rintro N1 rfl
      refine ⟨_, m_within hx (by omega) (by omega), ?_⟩
      rintro r2 N3 ⟨rfl, rfl⟩
      exact ⟨zo_rng _, fun z => absurd (by simpa using zo_ne z) q, fun _ => ⟨rfl, thrM, fun i _ => by rw [s34]⟩⟩
theorem op_dry {t : TT} {tb B : Nat} {M N : Mm} {x : Int} (hx : rng x) (hB : B < 100000) (h : Sim t tb B M N) : Op (S_Main_dry x) (S_Mod_dry x) B M N := by
  by_cases q : 0 ≤ x ∧ x ≤ 99
  · exact Op.ask h (c_dry q hB h) (m_dry q hB h)
  · refine Op.ask (v := -1) h ?_ ?_
    · exact e_Main_dry _ M fun K hK => w_Main_dry_0 hK _ M ⟨hx, fun _ => ⟨rfl, FrC.rf⟩, fun _ => ⟨hx, fun z => by omega, fun _ => ⟨rfl, FrC.rf⟩⟩⟩
    · refine e_Mod_dry _ N fun K hK => w_Mod_dry_0 hK _ N ?_
      rintro N1 rfl
      refine ⟨_, m_within hx (by omega) (by omega), ?_⟩
      rintro r2 N3 ⟨rfl, rfl⟩
      exact ⟨zo_rng _, fun z => absurd (by simpa using zo_ne z) q, fun _ => ⟨rfl, thrM, fun i _ => by rw [s34]⟩⟩
