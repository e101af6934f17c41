/-- the model's frame: cells p but the object's own, slots q of that -/
abbrev FrM (p q : Nat → Prop) (N N' : Mm) : Prop := (∀ c, c ≠ 1 → ¬ p c → N' c = N c) ∧ ∀ k, ¬ q k → N' 1 k = N 1 k
theorem FrM.rf {p q : Nat → Prop} {N : Mm} : FrM p q N N := ⟨fun _ _ _ => rfl, fun _ _ => rfl⟩
theorem FrM.tr {p q : Nat → Prop} {N N1 N2 : Mm} (h1 : FrM p q N N1) (h2 : FrM p q N1 N2) : FrM p q N N2 := ⟨fun c h h9 => (h2.1 c h h9).trans (h1.1 c h h9), fun k h => (h2.2 k h).trans (h1.2 k h)⟩
theorem FrM.wk {p q p' q' : Nat → Prop} {N N' : Mm} (h : FrM p q N N') (h1 : ∀ c, p c → p' c) (h2 : ∀ c, q c → q' c) : FrM p' q' N N' := ⟨fun c h9 hc => h.1 c h9 (fun z => hc (h1 c z)), fun k hk => h.2 k (fun z => hk (h2 k z))⟩
theorem FrM.up {p q : Nat → Prop} {N : Mm} {c : Nat} {g : Nat → Int} (hc : p c) (h1 : c ≠ 1) : FrM p q N (upr N c g) := ⟨fun r _ hr => (upr_ne (q := r) (c := c) (fun e => hr (by rw [e]; exact hc))).symm, fun k _ => by rw [upr_eq, if_neg (Ne.symm h1)]⟩
theorem FrM.u1 {p q : Nat → Prop} {N : Mm} {k : Nat} {v : Int} (hk : q k) : FrM p q N (upr N 1 (up1 (N 1) k v)) := ⟨fun r h1 _ => (upr_ne h1).symm, fun j hj => by rw [upr_eq, if_pos rfl, up1_eq, if_neg (fun e => hj (by rw [e]; exact hk))]⟩
abbrev inW (c : Nat) : Prop := 16 ≤ c ∧ c ≤ 24
/-- the model's laws, by what their walks answer -/
def LM0 (N : Mm) (f : Int → Int → Int → Int) : Prop :=
  ∀ N0 : Mm, (∀ j, j < 2 → N0 11 j = N 11 j) → (∀ j, j < 2 → N0 12 j = N 12 j) → (∀ j, j < 1000 → N0 13 j = N 13 j) → rng (N0 25 1) → rng (N0 25 2) → rng (N0 25 3) → S_Mod_worked 0 N0 (fun r N' => r = f (N0 25 1) (N0 25 2) (N0 25 3) ∧ rng r ∧ FrM inW (fun _ => False) N0 N')
def LM1 (N : Mm) (f : Int → Int → Int → Int → Int → Int) : Prop :=
  ∀ N0 : Mm, (∀ j, j < 2 → N0 11 j = N 11 j) → (∀ j, j < 2 → N0 12 j = N 12 j) → (∀ j, j < 1000 → N0 13 j = N 13 j) → rng (N0 25 1) → rng (N0 25 2) → rng (N0 25 3) → rng (N0 25 4) → rng (N0 25 5) → S_Mod_worked 1 N0 (fun r N' => r = f (N0 25 1) (N0 25 2) (N0 25 3) (N0 25 4) (N0 25 5) ∧ rng r ∧ FrM inW (fun _ => False) N0 N')
def RM (t : TT) (N : Mm) : Prop :=
  (N 3 0 = tn t ∧ N 3 2 = tprice t ∧ ((N 3 3 = 0 ∧ tnr t = 1 ∧ train t 0 = 1) ∨ (N 3 3 = tnr t ∧ ∀ i, i < tnr t → N 10 i = train t i))) ∧ (∀ h, h < tn t → (N 5 h = tkind t h ∧ N 8 h = tink t h ∧ N 9 h = tshun t h)) ∧ (rng (N 11 0) ∧ rng (N 12 0) ∧ rng (N 11 1) ∧ rng (N 12 1)) ∧
  ((N 12 0 ≤ N 11 0 ∧ tP t = fun w d g => if w ≤ g then d / 2 else d) ∨ (N 11 0 < N 12 0 ∧ LM0 N (tP t))) ∧
  ((N 12 1 ≤ N 11 1 ∧ tQ t = fun _ _ _ bl _ => bl) ∨ (N 11 1 < N 12 1 ∧ LM1 N (tQ t)))
theorem RM.fr2 {t : TT} {N N' : Mm} (h : RM t N) (hn : tn t ≤ 7) (hr : tnr t ≤ 12) (e3 : ∀ k, k < 4 → N' 3 k = N 3 k) (e : ∀ c, 5 ≤ c → c ≤ 9 → ∀ k, k < 7 → N' c k = N c k) (e10 : ∀ k, k < 12 → N' 10 k = N 10 k) (e11 : ∀ k, k < 2 → N' 11 k = N 11 k) (e12 : ∀ k, k < 2 → N' 12 k = N 12 k) (e13 : ∀ k, k < 1000 → N' 13 k = N 13 k) : RM t N' := by
  obtain ⟨h1, h2, h3, h4, h5⟩ := h
  refine ⟨⟨by rw [e3 0 (by omega)]; exact h1.1, by rw [e3 2 (by omega)]; exact h1.2.1, ?_⟩, fun q hq => ?_, by rw [e11 0 (by omega), e12 0 (by omega), e11 1 (by omega), e12 1 (by omega)]; exact h3, ?_, ?_⟩
  · rw [e3 3 (by omega)]
    rcases h1.2.2 with h | h
    · exact Or.inl h
    · exact Or.inr ⟨h.1, fun i hi => by rw [e10 i (by omega)]; exact h.2 i hi⟩
  · rw [e 5 (by omega) (by omega) q (by omega), e 8 (by omega) (by omega) q (by omega), e 9 (by omega) (by omega) q (by omega)]; exact h2 q hq
  · rw [e11 0 (by omega), e12 0 (by omega)]
    rcases h4 with h4 | h4
    · exact Or.inl h4
    · exact Or.inr ⟨h4.1, fun N0 a b c => h4.2 N0 (fun j hj => (a j hj).trans (e11 j hj)) (fun j hj => (b j hj).trans (e12 j hj)) (fun j hj => (c j hj).trans (e13 j hj))⟩
  · rw [e11 1 (by omega), e12 1 (by omega)]
    rcases h5 with h5 | h5
    · exact Or.inl h5
    · exact Or.inr ⟨h5.1, fun N0 a b c => h5.2 N0 (fun j hj => (a j hj).trans (e11 j hj)) (fun j hj => (b j hj).trans (e12 j hj)) (fun j hj => (c j hj).trans (e13 j hj))⟩
theorem RM.fr {t : TT} {N N' : Mm} (h : RM t N) (e3 : N' 3 = N 3) (e : ∀ c, 5 ≤ c → c ≤ 13 → N' c = N c) : RM t N' := by
  obtain ⟨h1, h2, h3, h4, h5⟩ := h
  have f11 := e 11 (by omega) (by omega); have f12 := e 12 (by omega) (by omega); have f13 := e 13 (by omega) (by omega)
  refine ⟨by rw [e3, e 10 (by omega) (by omega)]; exact h1, by rw [e 5 (by omega) (by omega), e 8 (by omega) (by omega), e 9 (by omega) (by omega)]; exact h2, by rw [f11, f12]; exact h3, ?_, ?_⟩
  · rw [f11, f12]
    rcases h4 with h4 | h4
    · exact Or.inl h4
    · exact Or.inr ⟨h4.1, fun N0 a b c => h4.2 N0 (fun j hj => (a j hj).trans (by rw [f11])) (fun j hj => (b j hj).trans (by rw [f12])) (fun j hj => (c j hj).trans (by rw [f13]))⟩
  · rw [f11, f12]
    rcases h5 with h5 | h5
    · exact Or.inl h5
    · exact Or.inr ⟨h5.1, fun N0 a b c => h5.2 N0 (fun j hj => (a j hj).trans (by rw [f11])) (fun j hj => (b j hj).trans (by rw [f12])) (fun j hj => (c j hj).trans (by rw [f13]))⟩
theorem RM.frM {t : TT} {N N' : Mm} {p q : Nat → Prop} (h : RM t N) (e : FrM p q N N') (h3 : ¬ p 3) (hp : ∀ c, 5 ≤ c → c ≤ 13 → ¬ p c) : RM t N' := h.fr (e.1 3 (by omega) h3) (fun c h1 h2 => e.1 c (by omega) (hp c h1 h2))
theorem m_between {N : Mm} {x a b : Int} (hx : rng x) (ha : rng a) (hb : rng b) (hab : a ≤ b) : S_Mod_between x a b N (fun r N' => N' = N ∧ r = max a (min x b) ∧ rng r) := by
  refine W_Mod_between _ _ _ N ?_
  refine ⟨hx, ha, fun h => ⟨hx, hb, fun h2 => ⟨rfl, ?_⟩, fun h2 => ⟨rfl, ?_⟩⟩, fun h => ⟨rfl, ?_⟩⟩ <;> omega
theorem m_isGoing {n B : Nat} {σ : Nat → Int} {N : Mm} {h : Nat} (hS : N 34 = σ) (hw : WF n B σ) (hh : h < 32) : S_Mod_isGoing (h : Int) N (fun r N' => N' = N ∧ r = zo (gosB σ h)) := by
  refine W_Mod_isGoing _ N ?_
  obtain ⟨a, ha⟩ : ∃ a : Nat, σ 4 = (a : Int) := ⟨(σ 4).toNat, by have := hw.2.2.2.1.1; omega⟩
  have h1 := hw.2.2.2.1.2.1
  rw [hS, ha, bit1 hh (by omega)]
  unfold gosB
  rw [ha, Int.toNat_natCast]
  cases a.testBit h <;> simp
theorem m_pressedOf {t : TT} {B : Nat} {σ : Nat → Int} {N : Mm} {h : Nat} (hT : RM t N) (hW : WT t) (hS : N 34 = σ) (hw : WF (tn t) B σ) (hh : h < tn t) :
    S_Mod_pressedOf (h : Int) N (fun r N' => r = prs t σ h ∧ FrM (fun c => inW c ∨ c = 25) (fun _ => False) N N') := by
  have hn := hW.1
  have w5 := hw.2.2.2.2.1 h hh
  have w2 := hw.2.1
  have e12 : ((12 : Int) + (h : Int)).toNat = 12 + h := by omega
  have e19 : ((19 : Int) + (h : Int)).toNat = 19 + h := by omega
  refine e_Mod_pressedOf _ N fun K hK => w_Mod_pressedOf_0 hK _ N ?_
  have k105 : ∀ (v : Int) (N1 : Mm), rng v → v = tP t (σ (12 + h)) (σ (19 + h)) (σ 1) → N1 34 = σ → FrM (fun c => inW c ∨ c = 25) (fun _ => False) N N1 → K NM RRM 105 [(0, vr 1), (1, vi (h : Int)), (2, vi v)] [] N1 := by
    intro v N1 hv he hS1 hf1
    refine w_Mod_pressedOf_105 hK _ _ N1 ?_
    refine ⟨by omega, _, m_between hv (by decide) (by decide) (by decide), ?_⟩
    rintro r N2 ⟨rfl, rfl, hr⟩
    rw [e19, hS1]
    refine ⟨by omega, hr, ?_, hf1⟩
    unfold prs
    rw [← he]
    omega
  have k41 : ∀ s0 : Int, rng s0 → (N 12 0 ≤ N 11 0 → s0 = tP t (σ (12 + h)) (σ (19 + h)) (σ 1)) → K NM RRM 41 [(0, vr 1), (1, vi (h : Int))] [vi s0] N := by
    intro s0 hs0 he
    refine w_Mod_pressedOf_41 hK _ _ N ?_
    refine ⟨hT.2.2.1.2.1, hT.2.2.1.1, fun q => k105 _ _ hs0 (he q) hS FrM.rf, fun q => ⟨by omega, ?_⟩⟩
    rintro N1 rfl
    refine ⟨by omega, ?_⟩
    rintro N2 rfl N3 rfl
    rcases hT.2.2.2.1 with h9 | h9
    · omega
    · have v1 : (upr (upr (upr N 25 (up1 (N 25) 1 (N 34 (12 + (h : Int)).toNat))) 25 (up1 (upr N 25 (up1 (N 25) 1 (N 34 (12 + (h : Int)).toNat)) 25) 2 (upr N 25 (up1 (N 25) 1 (N 34 (12 + (h : Int)).toNat)) 34 (19 + (h : Int)).toNat))) 25 (up1 (upr (upr N 25 (up1 (N 25) 1 (N 34 (12 + (h : Int)).toNat))) 25 (up1 (upr N 25 (up1 (N 25) 1 (N 34 (12 + (h : Int)).toNat)) 25) 2 (upr N 25 (up1 (N 25) 1 (N 34 (12 + (h : Int)).toNat)) 34 (19 + (h : Int)).toNat)) 25) 3 (upr (upr N 25 (up1 (N 25) 1 (N 34 (12 + (h : Int)).toNat))) 25 (up1 (upr N 25 (up1 (N 25) 1 (N 34 (12 + (h : Int)).toNat)) 25) 2 (upr N 25 (up1 (N 25) 1 (N 34 (12 + (h : Int)).toNat)) 34 (19 + (h : Int)).toNat)) 34 1))) = upr N 25 (up1 (up1 (up1 (N 25) 1 (σ (12 + h))) 2 (σ (19 + h))) 3 (σ 1)) := by
        funext c
        simp only [upr_eq, e12, e19, hS]
        split <;> simp
      rw [v1]
      refine ⟨_, h9.2 _ (by simp [upr_eq]) (by simp [upr_eq]) (by simp [upr_eq]) (by simp [upr_eq, up1_eq]; omega) (by simp [upr_eq, up1_eq]; omega) (by simp [upr_eq, up1_eq]; omega), ?_⟩
      rintro r N4 ⟨hr, hr2, hf⟩
      refine k105 _ _ hr2 (by rw [hr]; simp [upr_eq, up1_eq]) (by rw [hf.1 34 (by omega) (by omega)]; simp [upr_eq, hS]) ((FrM.up (Or.inr rfl) (by omega)).tr (hf.wk (fun c hc => Or.inl hc) (fun _ z => z)))
  rw [e12, e19, hS]
  refine ⟨by omega, by omega, by omega, fun q => ⟨by omega, k41 _ (rng_toInt _) ?_⟩, fun q => ⟨by omega, k41 _ (by omega) ?_⟩⟩
  · intro h0
    rcases hT.2.2.2.1 with h9 | h9
    · rw [h9.2]
      simp only [if_pos q]
      obtain ⟨a, ha⟩ : ∃ a : Nat, σ (19 + h) = (a : Int) := ⟨(σ (19 + h)).toNat, by omega⟩
      rw [ha]
      exact divI_pos (d := 2) (by omega) (by omega) (by omega)
    · omega
  · intro h0
    rcases hT.2.2.2.1 with h9 | h9
    · rw [h9.2]
      simp only [if_neg q]
    · omega
theorem m_printedBy {t : TT} {B : Nat} {σ : Nat → Int} {N : Mm} {a : Int} {h : Nat} (hT : RM t N) (hW : WT t) (hS : N 34 = σ) (hw : WF (tn t) B σ) (ha : a = -1 ∨ (0 ≤ a ∧ a < tn t)) (hh : h < tn t) :
    S_Mod_printedBy a (h : Int) N (fun r N' => r = prb t σ a h ∧ FrM (fun c => inW c ∨ c = 25) (fun _ => False) N N') := by
  have hn := hW.1
  have w5 := hw.2.2.2.2.1 h hh
  have w2 := hw.2.1
  have hk := hW.2.1 h hh
  have e12 : ((12 : Int) + (h : Int)).toNat = 12 + h := by omega
  have e19 : ((19 : Int) + (h : Int)).toNat = 19 + h := by omega
  refine W_Mod_printedBy _ _ N ?_
  refine ⟨by omega, fun q => ?_, fun q => ⟨by omega, ?_⟩⟩
  · refine ⟨?_, FrM.rf⟩
    unfold prb; rw [if_pos (by omega)]
  · obtain ⟨a', rfl⟩ : ∃ a' : Nat, a = (a' : Int) := ⟨a.toNat, by omega⟩
    have ha' : a' < tn t := by omega
    have w5a := hw.2.2.2.2.1 a' ha'
    have hka := hW.2.1 a' ha'
    have e12a : ((12 : Int) + (a' : Int)).toNat = 12 + a' := by omega
    have eb : prb t σ (a' : Int) h = prt t σ a' h := by unfold prb; rw [if_neg (by omega), Int.toNat_natCast]
    rw [eb, Int.toNat_natCast, Int.toNat_natCast, (hT.2.1 h hh).1]
    refine ⟨by omega, fun q3 => ⟨by omega, hT.2.2.1.2.2.2, hT.2.2.1.2.2.1, fun q4 => ?_, fun q4 => ⟨by omega, ?_⟩⟩, fun q3 => ?_⟩
    · rw [(hT.2.1 a' ha').2.1]
      refine ⟨_, m_between (by omega) (by decide) (by decide) (by decide), ?_⟩
      rintro r N1 ⟨rfl, rfl, hr⟩
      refine ⟨?_, FrM.rf⟩
      rcases hT.2.2.2.2 with h9 | h9
      · unfold prt; rw [if_neg q3, h9.2]
      · omega
    · rintro N1 rfl
      refine ⟨by omega, ?_⟩
      rintro N2 rfl N3 rfl
      refine ⟨by omega, ?_⟩
      rintro N4 rfl
      refine ⟨by omega, ?_⟩
      intro N5 h5
      rcases hT.2.2.2.2 with h9 | h9
      · omega
      · have v1 : N5 = upr N 25 (up1 (up1 (up1 (up1 (up1 (N 25) 1 (σ (12 + h))) 2 (σ (19 + h))) 3 (σ 1)) 4 (tink t a')) 5 (σ (12 + a'))) := by
          rw [h5]
          funext c
          simp only [upr_eq, e12, e19, e12a, hS]
          split
          · simp [(hT.2.1 a' ha').2.1]
          · simp [*]
        rw [v1]
        refine ⟨_, h9.2 _ (by simp [upr_eq]) (by simp [upr_eq]) (by simp [upr_eq]) (by simp [upr_eq, up1_eq]; omega) (by simp [upr_eq, up1_eq]; omega) (by simp [upr_eq, up1_eq]; omega) (by simp [upr_eq, up1_eq]; omega) (by simp [upr_eq, up1_eq]; omega), ?_⟩
        rintro r N6 ⟨hr, hr2, hf⟩
        refine ⟨_, m_between hr2 (by decide) (by decide) (by decide), ?_⟩
        rintro r2 N7 ⟨rfl, rfl, hr3⟩
        refine ⟨?_, (FrM.up (Or.inr rfl) (by omega)).tr (hf.wk (fun c hc => Or.inl hc) (fun _ z => z))⟩
        unfold prt; rw [if_neg q3, hr]
        simp [upr_eq, up1_eq]
    · refine ⟨?_, FrM.rf⟩
      unfold prt; rw [if_pos q3]
