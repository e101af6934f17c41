/-- one line of the years: what it makes of the state, and whether it goes -/
def lnS (t : TT) (σ : Nat → Int) (d h x : Int) : (Nat → Int) × Bool :=
  if d = 0 then (if x < tn t then (mv σ (plo σ h (tn t)) x.toNat, true) else (σ, false)) else if d = 1 then (up1 σ 4 (xorI (σ 4) (shlI 1 h)), true) else if d = 3 then (if x ≤ σ 2 then (slS σ x (tprice t), true) else (σ, false)) else (runS t σ, true)
def okL (n : Nat) (d h x : Int) : Prop := (0 ≤ d ∧ d ≤ 3) ∧ (d ≤ 1 → (0 ≤ h ∧ h < n)) ∧ (d = 0 → (0 ≤ x ∧ x ≤ 6)) ∧ (d = 3 → (1 ≤ x ∧ x ≤ 99))
theorem plo_lt {n B : Nat} {σ : Nat → Int} {h : Nat} (hw : WF n B σ) (hh : h < n) : plo σ (h : Int) n < n ∧ σ (5 + plo σ (h : Int) n) = (h : Int) := by
  obtain ⟨p, hp, hpk⟩ := hw.place hh
  rw [← hpk, plo_at hw hp]
  exact ⟨hp, rfl⟩
theorem lnS_WF {t : TT} {B : Nat} {σ : Nat → Int} {d h x : Int} (hW : WT t) (hw : WF (tn t) B σ) (ho : okL (tn t) d h x) : WF (tn t) (B + 1) (lnS t σ d h x).1 := by
  have hn := hW.1
  obtain ⟨o1, o2, o3, o4⟩ := ho
  unfold lnS
  by_cases d0 : d = 0
  · rw [if_pos d0]
    obtain ⟨k, rfl⟩ : ∃ k : Nat, h = (k : Int) := ⟨h.toNat, by have := o2 (by omega); omega⟩
    have h1 := plo_lt hw (h := k) (by have := o2 (by omega); omega)
    have h3 := o3 d0
    by_cases q : x < tn t
    · rw [if_pos q]
      exact (mv_WF hw hn h1.1 (by omega)).mono (Nat.le_succ _)
    · rw [if_neg q]
      exact hw.mono (Nat.le_succ _)
  · rw [if_neg d0]
    by_cases d1 : d = 1
    · rw [if_pos d1]
      obtain ⟨k, rfl⟩ : ∃ k : Nat, h = (k : Int) := ⟨h.toNat, by have := o2 (by omega); omega⟩
      exact (rod_ok hw hn (by have := o2 (by omega); omega)).mono (Nat.le_succ _)
    · rw [if_neg d1]
      by_cases d3 : d = 3
      · rw [if_pos d3]
        by_cases q : x ≤ σ 2
        · rw [if_pos q]
          exact (slS_WF hw hn (by have := o4 d3; omega) q).mono (Nat.le_succ _)
        · rw [if_neg q]
          exact hw.mono (Nat.le_succ _)
      · rw [if_neg d3]
        exact runS_WF hW hw
theorem c_moveNo {n B : Nat} {σ : Nat → Int} {M : Mm} {b h f : Nat} {x : Int} (hb : At shC NN b (.inl 5)) (hS : RS n σ M b) (hw : WF n B σ) (hn : n ≤ 7) (hf : f < n) (hh : σ (5 + f) = (h : Int)) (hx : rng x) (hx2 : ¬ (0 ≤ x ∧ x < n)) :
    S_State_moveTo b (h : Int) x (n : Int) M (fun r M' => r = 0 ∧ M' = M) := by
  refine e_State_moveTo b _ _ _ M fun K hK => w_State_moveTo_0 hK b hb _ _ _ M ⟨_, c_placeOf hb hS hw hn hf hh, ?_⟩
  rintro r M1 ⟨rfl, rfl⟩
  exact ⟨by omega, fun z => by omega, fun _ => ⟨hx, fun _ => ⟨rfl, rfl⟩, fun _ => ⟨hx, by omega, fun z => by omega, fun _ => ⟨rfl, rfl⟩⟩⟩⟩
abbrev frD (b1 b4 c : Nat) : Prop := c = 61 ∨ c = b1 + 10 ∨ c = b1 + 13 ∨ inS b4 c
theorem c_follow {t : TT} {B : Nat} {σ : Nat → Int} {M : Mm} {b1 b2 b4 i : Nat} {d h x : Int} (hb1 : At shC NN b1 (.inl 7)) (hb2 : At shC NN b2 (.inl 8)) (hb4 : At shC NN b4 (.inl 5)) (hT : RT t M b1) (hW : WT t) (hS : RS (tn t) σ M b4) (hw : WF (tn t) B σ) (hB : B < 1000000) (hi : i < 40)
    (ho : okL (tn t) d h x) (e1 : M (b2 + 1) i = d) (e2 : d ≤ 1 → M (b2 + 2) i = h) (e3 : d = 0 ∨ d = 3 → M (b2 + 3) i = x) :
    S_Mangle_follow 61 b1 b2 (i : Int) b4 M (fun r M' => r = zo (lnS t σ d h x).2 ∧ RS (tn t) (lnS t σ d h x).1 M' b4 ∧ RT t M' b1 ∧ (∀ k, 2 ≤ k → M' 61 k = M 61 k) ∧ FrC (frD b1 b4) M M') := by
  have hn := hW.1
  have lb1 := town_at hb1
  have lb4 := st_at hb4
  obtain ⟨o1, o2, o3, o4⟩ := ho
  refine W_Mangle_follow 61 atC_61 b1 hb1 b2 hb2 _ b4 hb4 M ?_
  rw [Int.toNat_natCast, e1, hT.1.1, hT.1.2.1]
  unfold lnS
  refine ⟨by omega, by omega, fun d0 => ⟨by omega, by omega, ?_⟩, fun d1 => ⟨by omega, ?_⟩, fun d3 => ⟨by omega, ?_⟩, fun dd => ?_⟩
  · rw [if_pos d0, e2 (by omega), e3 (Or.inl d0)]
    have h2 := o2 (by omega)
    have h3 := o3 d0
    obtain ⟨k, rfl⟩ : ∃ k : Nat, h = (k : Int) := ⟨h.toNat, by omega⟩
    obtain ⟨j, rfl⟩ : ∃ j : Nat, x = (j : Int) := ⟨x.toNat, by omega⟩
    have h1 := plo_lt hw (h := k) (by omega)
    by_cases q : (j : Int) < tn t
    · rw [if_pos q, Int.toNat_natCast]
      refine ⟨_, c_moveTo hb4 hS hw hn h1.1 h1.2 (by omega), ?_⟩
      rintro r M4 ⟨rfl, hS4, hf4⟩
      exact ⟨Or.inr rfl, rfl, hS4, hT.fr (fun i _ _ => hf4 _ (by omega)), fun k _ => by rw [hf4 61 (by omega)], hf4.wk (fun c hc => by omega)⟩
    · rw [if_neg q]
      refine ⟨_, c_moveNo hb4 hS hw hn h1.1 h1.2 (by omega) (by omega), ?_⟩
      rintro r M4 ⟨rfl, rfl⟩
      exact ⟨Or.inl rfl, rfl, hS, hT, fun _ _ => rfl, FrC.rf⟩
  · rw [if_neg (by omega), if_pos d1, e2 (by omega)]
    refine ⟨fun M' => M' = upr M b4 (up1 (M b4) 4 (xorI (M b4 4) (shlI 1 h))), W_State_turnRoad b4 hb4 _ M (fun _ e => e), ?_⟩
    rintro M4 rfl
    rw [hS.1.2.2.2.2]
    exact ⟨rfl, hS.rod _, hT.fr (fun i _ _ => by rw [upr_eq, if_neg (by omega)]), fun k _ => by rw [upr_eq, if_neg (by omega)], FrC.up (by omega)⟩
  · rw [if_neg (by omega), if_neg (by omega), if_pos d3, e3 (Or.inr d3)]
    have h4 := o4 d3
    refine ⟨_, c_sellPints hb4 hS hw (by omega), ?_⟩
    rintro r M4 ⟨rfl, g2, g3⟩
    refine ⟨by by_cases q : x ≤ σ 2 <;> simp [q], ?_, ?_, hT.fr (fun i _ _ => g3 _ (by omega)), fun k _ => by rw [g3 61 (by omega)], g3.wk (fun c hc => by omega)⟩
    · by_cases q : x ≤ σ 2 <;> simp [q]
    · by_cases q : x ≤ σ 2
      · rw [if_pos q] at g2 ⊢; exact g2
      · rw [if_neg q] at g2 ⊢; exact g2
  · rw [if_neg (by omega), if_neg (by omega), if_neg (by omega)]
    refine ⟨_, c_drawThrough atC_61 hb1 hb4 hT hW hS hw hB, ?_⟩
    rintro M4 ⟨g1, g2, g3, g4, g5⟩
    exact ⟨rfl, g1, g2, g4.2, g5⟩
theorem m_goes {t : TT} {B : Nat} {σ : Nat → Int} {N : Mm} {i : Nat} {d h x : Int} (hT : RM t N) (hW : WT t) (hS : N 34 = σ) (hw : WF (tn t) B σ) (hB : B < 1000000) (hi : i < 240)
    (ho : okL (tn t) d h x) (e1 : N 27 i = d) (e2 : d ≤ 1 → N 28 i = h) (e3 : d = 0 ∨ d = 3 → N 29 i = x) :
    S_Mod_goes (i : Int) N (fun r N' => r = zo (lnS t σ d h x).2 ∧ N' 34 = (lnS t σ d h x).1 ∧ FrM (fun c => inW c ∨ c = 25 ∨ c = 34) (fun k => k = 51) N N') := by
  have hn := hW.1
  obtain ⟨o1, o2, o3, o4⟩ := ho
  refine W_Mod_goes _ N ?_
  rw [Int.toNat_natCast, e1]
  unfold lnS
  refine ⟨by omega, by omega, fun d0 => ⟨by omega, fun d1 => ⟨by omega, fun d2 => ⟨by omega, ?_⟩, fun d2 => ?_⟩, fun d1 => ⟨by omega, ?_⟩⟩, fun d0 => ⟨by omega, ?_⟩⟩
  · have d3 : d = 3 := by omega
    rw [if_neg d0, if_neg d1, if_pos d3, e3 (Or.inr d3), hS]
    have h4 := o4 d3
    have := hw.2.2.1
    refine ⟨by omega, by omega, fun q => ⟨by omega, _, m_sells hT hS, ?_⟩, fun q => ⟨by rw [if_neg q]; rfl, by rw [if_neg q], FrM.rf⟩⟩
    rintro N1 rfl
    exact ⟨by rw [if_pos q]; rfl, by rw [if_pos q, upr_eq, if_pos rfl], FrM.up (by omega) (by omega)⟩
  · rw [if_neg d0, if_neg d1, if_neg (by omega)]
    refine ⟨_, m_runs hT hW hS hw hB, ?_⟩
    rintro r N1 ⟨g1, g2, g3, g4⟩
    exact ⟨rfl, g2, g4⟩
  · rw [if_neg d0, if_pos d1, e2 (by omega)]
    rintro N1 rfl
    exact ⟨rfl, by rw [upr_eq, if_pos rfl, hS], FrM.up (by omega) (by omega)⟩
  · rw [if_pos d0, e3 (Or.inl d0)]
    have h2 := o2 (by omega)
    have h3 := o3 d0
    obtain ⟨k, rfl⟩ : ∃ k : Nat, h = (k : Int) := ⟨h.toNat, by omega⟩
    obtain ⟨j, rfl⟩ : ∃ j : Nat, x = (j : Int) := ⟨x.toNat, by omega⟩
    have h1 := plo_lt hw (h := k) (by omega)
    refine ⟨_, m_isHouse (by omega) hT hW, ?_⟩
    rintro r N1 ⟨rfl, rfl⟩
    refine ⟨zo_rng _, fun q => ?_, fun q => ?_⟩
    · have q1 : 0 ≤ (j : Int) ∧ (j : Int) < tn t := by simpa using zo_ne q
      rw [if_pos q1.2, Int.toNat_natCast, e3 (Or.inl d0), e2 (by omega)]
      refine ⟨by omega, by omega, _, m_laysAt hT hW hS hw h1.1 h1.2 (by omega), ?_⟩
      rintro N2 ⟨g1, g2⟩
      exact ⟨rfl, g1, g2.wk (fun c hc => by omega) (fun _ z => z.elim)⟩
    · have q1 : ¬ (0 ≤ (j : Int) ∧ (j : Int) < tn t) := by simpa using zo_0 q
      rw [if_neg (by omega)]
      exact ⟨rfl, hS, FrM.rf⟩
