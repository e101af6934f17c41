theorem SimY.cp {n yb sl yb' sl' : Nat} {M N M' N' : Mm} (h : SimY n M N yb sl) (e0 : M' yb' 3 = M yb 3) (e : ∀ j, 1 ≤ j → j ≤ 3 → ∀ i, i < 40 → M' (yb' + j) i = M (yb + j) i) (f0 : N' 26 sl' = N 26 sl) (f : ∀ c, 27 ≤ c → c ≤ 29 → ∀ i, i < 40 → N' c (40 * sl' + i) = N c (40 * sl + i)) : SimY n M' N' yb' sl' := by
  obtain ⟨L, h1, h2, h3, h4⟩ := h
  refine ⟨L, e0.trans h1, f0.trans h2, h3, fun i hi => ?_⟩
  rw [e 1 (by omega) (by omega) i (by omega), e 2 (by omega) (by omega) i (by omega), e 3 (by omega) (by omega) i (by omega), f 27 (by omega) (by omega) i (by omega), f 28 (by omega) (by omega) i (by omega), f 29 (by omega) (by omega) i (by omega)]
  exact h4 i hi
theorem SimH.cp {n sb sl sb' sl' : Nat} {M N M' N' : Mm} (h : SimH n M N sb sl) (e4 : M' sb' 4 = M sb 4) (e5 : M' sb' 5 = M sb 5) (e10 : ∀ i, i < 8 → M' (sb' + 10) i = M (sb + 10) i) (e11 : ∀ i, i < 8 → M' (sb' + 11) i = M (sb + 11) i) (f30 : N' 30 sl' = N 30 sl) (f31 : N' 31 sl' = N 31 sl) (f32 : ∀ i, i < 8 → N' 32 (8 * sl' + i) = N 32 (8 * sl + i)) (f33 : ∀ i, i < 8 → N' 33 (8 * sl' + i) = N 33 (8 * sl + i)) : SimH n M' N' sb' sl' := by
  obtain ⟨h1, k, h2, h3, h4, h5⟩ := h
  refine ⟨by rw [e5, f30]; exact h1, k, e4.trans h2, f31.trans h3, h4, fun i hi => ?_⟩
  rw [e10 i (by omega), e11 i (by omega), f32 i (by omega), f33 i (by omega)]
  exact h5 i hi
theorem SimM.cp {n B B' : Nat} {M N M' N' : Mm} (h : SimM n B M N) (hB : B ≤ B') (e1 : M' 59 = M 59) (e : ∀ c, 73 ≤ c → c ≤ 120 → M' c = M c) (f26 : ∀ k, 1 ≤ k → N' 26 k = N 26 k) (f : ∀ c, 27 ≤ c → c ≤ 29 → ∀ k, 40 ≤ k → N' c k = N c k) (f30 : ∀ k, 1 ≤ k → N' 30 k = N 30 k) (f31 : ∀ k, 1 ≤ k → N' 31 k = N 31 k) (f32 : ∀ k, 8 ≤ k → N' 32 k = N 32 k) (f33 : ∀ k, 8 ≤ k → N' 33 k = N 33 k) (f36 : N' 36 = N 36) (f38 : N' 38 = N 38) : SimM n B' M' N' := by
  intro i hi
  obtain ⟨h1, h2, h3⟩ := h i hi
  rw [e1, f38, f36]
  refine ⟨h1, h2, fun q => ?_⟩
  obtain ⟨a, b, c, d⟩ := h3 q
  exact ⟨a.fr (fun j hj => e _ (by omega) (by omega)), b.mono hB, c.cp (by rw [e _ (by omega) (by omega)]) (fun j _ _ k _ => by rw [e _ (by omega) (by omega)]) (f26 _ (by omega)) (fun c h1 h2 k _ => f c h1 h2 _ (by omega)),
    d.cp (by rw [e _ (by omega) (by omega)]) (by rw [e _ (by omega) (by omega)]) (fun k _ => by rw [e _ (by omega) (by omega)]) (fun k _ => by rw [e _ (by omega) (by omega)]) (f30 _ (by omega)) (f31 _ (by omega)) (fun k _ => f32 _ (by omega)) (fun k _ => f33 _ (by omega))⟩
theorem op_hear {t : TT} {tb B : Nat} {M N : Mm} {x : Int} (hx : rng x) (h0 : Sim t tb B M N) : Op (S_Main_hear x) (S_Mod_hear x) B M N := by
  have h := h0
  obtain ⟨hW, hT, hS, hN, hP, hY, hH, hU, hM⟩ := h
  have htb := hT.1
  by_cases q : 0 ≤ x ∧ x ≤ 693
  · refine ⟨1, fun M' => M' = upr M 41 (up1 (M 41) 5 x), fun N' => N' = upr (upr N 1 (up1 (N 1) 0 0)) 30 (up1 (N 30) 0 x), ?_, ?_, ?_⟩
    · refine W_Main_hear _ M ⟨hx, fun z => by omega, fun _ => ⟨hx, fun _ => ?_, fun z => by omega⟩⟩
      rintro M1 rfl
      exact ⟨rfl, rfl⟩
    · refine W_Mod_hear _ N ?_
      rintro N1 rfl
      refine ⟨_, m_within hx (by omega) (by omega), ?_⟩
      rintro r2 N3 ⟨rfl, rfl⟩
      refine ⟨zo_rng _, fun _ => ?_, fun z => by simp [q] at z⟩
      rintro N4 rfl
      exact ⟨rfl, rfl⟩
    · rintro M' N' rfl rfl
      have e : ∀ c, c ≠ 41 → (upr M 41 (up1 (M 41) 5 x)) c = M c := fun c hc => by rw [upr_eq, if_neg hc]
      have f : ∀ c, c ≠ 1 → c ≠ 30 → (upr (upr N 1 (up1 (N 1) 0 0)) 30 (up1 (N 30) 0 x)) c = N c := fun c h1 h2 => by rw [upr_eq, if_neg h2, upr_eq, if_neg h1]
      have f1 : ∀ k, k ≠ 0 → (upr (upr N 1 (up1 (N 1) 0 0)) 30 (up1 (N 30) 0 x)) 1 k = N 1 k := fun k hk => by rw [upr_eq, if_neg (by omega), upr_eq, if_pos rfl, up1_eq, if_neg hk]
      have f30 : (upr (upr N 1 (up1 (N 1) 0 0)) 30 (up1 (N 30) 0 x)) 30 = up1 (N 30) 0 x := by rw [upr_eq, if_pos rfl]
      refine ⟨t, tb, Sim.mono (B := B) ⟨hW, hT.fr (by rw [e 1 (by omega)]) (by rw [e 1 (by omega)]) (fun c _ _ _ _ => e _ (by omega)) (fun c _ _ => f c (by omega) (by omega)), hS.fr (fun c _ _ => e c (by omega)) (fun c _ => f c (by omega) (by omega)), ?_, hP.fr (by rw [e 2 (by omega)]) (e 3 (by omega)) (f1 1 (by omega)) (f 2 (by omega) (by omega)), hY.fr (fun i _ => e _ (by omega)) (fun c _ _ => f c (by omega) (by omega)), ?_, hU.fr (Nat.le_refl _) (by rw [e 1 (by omega)]) (by rw [e 1 (by omega)]) (fun c _ _ => e c (by omega)) (f1 50 (by omega)) (f 37 (by omega) (by omega)),
        hM.cp (Nat.le_refl _) (e 59 (by omega)) (fun c _ _ => e c (by omega)) (fun k _ => by rw [f 26 (by omega) (by omega)]) (fun c _ _ k _ => by rw [f c (by omega) (by omega)]) (fun k hk => by rw [f30, up1_eq, if_neg (by omega)]) (fun k _ => by rw [f 31 (by omega) (by omega)]) (fun k _ => by rw [f 32 (by omega) (by omega)]) (fun k _ => by rw [f 33 (by omega) (by omega)]) (f 36 (by omega) (by omega)) (f 38 (by omega) (by omega))⟩ (Nat.le_succ _)⟩
      · unfold SimN
        rw [f 34 (by omega) (by omega)]
        exact ⟨hN.1.fr (fun i _ => e _ (by omega)), hN.2⟩
      · obtain ⟨-, k, h2, h3, h4, h5⟩ := hH
        refine ⟨?_, k, ?_, ?_, h4, fun i hi => ?_⟩
        · rw [f30, upr_eq, if_pos rfl, up1_eq, if_pos rfl, up1_eq, if_pos rfl]
          exact ⟨rfl, by omega, by omega⟩
        · rw [upr_eq, if_pos rfl, up1_eq, if_neg (by omega)]; exact h2
        · rw [f 31 (by omega) (by omega)]; exact h3
        · rw [e _ (by omega), e _ (by omega), f 32 (by omega) (by omega), f 33 (by omega) (by omega)]; exact h5 i hi
  · refine Op.ask (v := 0) h0 ?_ ?_
    · exact W_Main_hear _ M ⟨hx, fun _ => ⟨rfl, FrC.rf⟩, fun _ => ⟨hx, fun z => by omega, fun _ => ⟨rfl, FrC.rf⟩⟩⟩
    · refine W_Mod_hear _ N ?_
      rintro N1 rfl
      refine ⟨_, m_within hx (by omega) (by omega), ?_⟩
      rintro r2 N3 ⟨rfl, rfl⟩
      exact ⟨zo_rng _, fun z => absurd (by simpa using zo_ne z) q, fun _ => ⟨rfl, thrM, fun i _ => by rw [s34]⟩⟩
theorem op_see {t : TT} {tb B : Nat} {M N : Mm} {x z : Int} (hx : rng x) (hz : rng z) (h0 : Sim t tb B M N) : Op (S_Main_see x z) (S_Mod_see x z) B M N := by
  have h := h0
  obtain ⟨hW, hT, hS, hN, hP, hY, hH, hU, hM⟩ := h
  have htb := hT.1
  have hn := hW.1
  have hT1 := hT.2.2.2.2.1.thr
  obtain ⟨hh, k, h2, h3, h4, h5⟩ := hH
  have et : ∀ c, c ≠ 1 → (upr N 1 (up1 (N 1) 0 0)) c = N c := fun c hc => by rw [upr_eq, if_neg hc]
  by_cases q : (0 ≤ x ∧ x < tn t) ∧ (0 ≤ z ∧ z < tn t) ∧ x ≠ z ∧ k ≠ 8
  · refine ⟨1, fun M' => M' 41 = up1 (M 41) 4 ((k : Int) + 1) ∧ M' 51 = up1 (M 51) k x ∧ M' 52 = up1 (M 52) k z ∧ FrC (fun c => c = 41 ∨ c = 51 ∨ c = 52) M M', fun N' => N' 31 = up1 (N 31) 0 ((k : Int) + 1) ∧ N' 32 = up1 (N 32) k x ∧ N' 33 = up1 (N 33) k z ∧ FrM (fun c => c = 31 ∨ c = 32 ∨ c = 33) (fun k => k = 0) N N', ?_, ?_, ?_⟩
    · refine W_Main_see _ _ M ⟨_, c_isHouse hx hT.1 hT.2.1 hT.2.2.2.1 hW, ?_⟩
      rintro r M1 ⟨rfl, rfl⟩
      refine ⟨zo_rng _, fun z => by simp [q.1] at z, fun _ => ⟨_, c_isHouse hz hT.1 hT.2.1 hT.2.2.2.1 hW, ?_⟩⟩
      rintro r M2 ⟨rfl, rfl⟩
      refine ⟨zo_rng _, fun z => by simp [q.2.1] at z, fun _ => ⟨hx, hz, fun _ => ?_, fun z => absurd z q.2.2.1⟩⟩
      refine ⟨fun r M' => r = 1 ∧ M' 41 = up1 (M2 41) 4 ((k : Int) + 1) ∧ M' 51 = up1 (M2 51) k x ∧ M' 52 = up1 (M2 52) k z ∧ FrC (fun c => c = 41 ∨ c = 51 ∨ c = 52) M2 M', W_Standing_addSeen 41 atC_41 _ _ M2 ?_, fun r M3 h => ⟨Or.inr h.1, h⟩⟩
      rw [h2]
      refine ⟨by omega, fun _ => ⟨by omega, ?_⟩, fun z => by omega⟩
      rintro M3 rfl
      have e41 : (upr M2 (41 + 10) (up1 (M2 (41 + 10)) ((k : Int)).toNat x)) 41 = M2 41 := by rw [upr_eq, if_neg (by omega)]
      rw [e41, h2]
      refine ⟨by omega, ?_⟩
      rintro M4 rfl
      rintro M5 rfl
      rw [Int.toNat_natCast]
      refine ⟨rfl, ?_, ?_, ?_, ((FrC.up (Or.inr (Or.inl rfl))).tr (FrC.up (Or.inr (Or.inr rfl)))).tr (FrC.up (Or.inl rfl))⟩
      · rw [upr_eq, if_pos rfl, upr_eq, if_neg (by omega), upr_eq, if_neg (by omega), h2]
      · rw [upr_eq, if_neg (by omega), upr_eq, if_neg (by omega), upr_eq, if_pos rfl]
      · rw [upr_eq, if_neg (by omega), upr_eq, if_pos rfl, upr_eq, if_neg (by omega)]
    · refine W_Mod_see _ _ N ?_
      rintro N1 rfl
      refine ⟨_, m_isHouse hx hT1 hW, ?_⟩
      rintro r N2 ⟨rfl, rfl⟩
      refine ⟨zo_rng _, fun z => by simp [q.1] at z, fun _ => ⟨_, m_isHouse hz hT1 hW, ?_⟩⟩
      rintro r N3 ⟨rfl, rfl⟩
      refine ⟨zo_rng _, fun z => by simp [q.2.1] at z, fun _ => ⟨hx, hz, fun z => absurd z q.2.2.1, fun _ => ?_⟩⟩
      rw [et 31 (by omega), h3]
      refine ⟨by omega, fun _ => ⟨by omega, ?_⟩, fun z => by omega⟩
      rintro N4 rfl
      have e31 : (upr (upr N 1 (up1 (N 1) 0 0)) 32 (up1 ((upr N 1 (up1 (N 1) 0 0)) 32) ((k : Int)).toNat x)) 31 = N 31 := by rw [upr_eq, if_neg (by omega), et 31 (by omega)]
      rw [e31, h3]
      refine ⟨by omega, ?_⟩
      rintro N5 rfl
      rintro N6 rfl
      rw [Int.toNat_natCast]
      refine ⟨rfl, ?_, ?_, ?_, (((FrM.u1 (q := fun k => k = 0) rfl).tr (FrM.up (c := 32) (Or.inr (Or.inl rfl)) (by omega))).tr (FrM.up (c := 33) (Or.inr (Or.inr rfl)) (by omega))).tr (FrM.up (c := 31) (Or.inl rfl) (by omega))⟩
      · rw [upr_eq, if_pos rfl, upr_eq, if_neg (by omega), upr_eq, if_neg (by omega), et 31 (by omega), h3]
      · rw [upr_eq, if_neg (by omega), upr_eq, if_neg (by omega), upr_eq, if_pos rfl, et 32 (by omega)]
      · rw [upr_eq, if_neg (by omega), upr_eq, if_pos rfl, upr_eq, if_neg (by omega), et 33 (by omega)]
    · rintro M' N' ⟨a1, a2, a3, e⟩ ⟨b1, b2, b3, f⟩
      refine ⟨t, tb, Sim.mono (B := B) ⟨hW, hT.fr (by rw [e 1 (by omega)]) (by rw [e 1 (by omega)]) (fun c _ _ _ _ => e _ (by omega)) (fun c _ _ => f.1 c (by omega) (by omega)), hS.fr (fun c _ _ => e c (by omega)) (fun c _ => f.1 c (by omega) (by omega)), ?_, hP.fr (by rw [e 2 (by omega)]) (e 3 (by omega)) (f.2 1 (by omega)) (f.1 2 (by omega) (by omega)), hY.fr (fun i _ => e _ (by omega)) (fun c _ _ => f.1 c (by omega) (by omega)), ?_, hU.fr (Nat.le_refl _) (by rw [e 1 (by omega)]) (by rw [e 1 (by omega)]) (fun c _ _ => e c (by omega)) (f.2 50 (by omega)) (f.1 37 (by omega) (by omega)),
        hM.cp (Nat.le_refl _) (e 59 (by omega)) (fun c _ _ => e c (by omega)) (fun k _ => by rw [f.1 26 (by omega) (by omega)]) (fun c _ _ k _ => by rw [f.1 c (by omega) (by omega)]) (fun k hk => by rw [f.1 30 (by omega) (by omega)]) (fun k _ => by rw [b1, up1_eq, if_neg (by omega)]) (fun k _ => by rw [b2, up1_eq, if_neg (by omega)]) (fun k _ => by rw [b3, up1_eq, if_neg (by omega)]) (f.1 36 (by omega) (by omega)) (f.1 38 (by omega) (by omega))⟩ (Nat.le_succ _)⟩
      · unfold SimN
        rw [f.1 34 (by omega) (by omega)]
        exact ⟨hN.1.fr (fun i _ => e _ (by omega)), hN.2⟩
      · refine ⟨?_, k + 1, ?_, ?_, by omega, fun i hi => ?_⟩
        · rw [a1, up1_eq, if_neg (by omega), f.1 30 (by omega) (by omega)]; exact hh
        · rw [a1, up1_eq, if_pos rfl]; omega
        · rw [b1, up1_eq, if_pos rfl]; omega
        · rw [a2, a3, b2, b3, up1_eq, up1_eq, up1_eq, up1_eq, Nat.mul_zero, Nat.zero_add]
          by_cases c : i = k
          · simp only [if_pos c]
            exact ⟨trivial, trivial, by omega, by omega, by omega, by omega⟩
          · simp only [if_neg c]
            have := h5 i (by omega)
            rw [Nat.mul_zero, Nat.zero_add] at this
            exact this
  · refine Op.ask (v := 0) h0 ?_ ?_
    · refine W_Main_see _ _ M ⟨_, c_isHouse hx hT.1 hT.2.1 hT.2.2.2.1 hW, ?_⟩
      rintro r M1 ⟨rfl, rfl⟩
      refine ⟨zo_rng _, fun z => ⟨rfl, FrC.rf⟩, fun q1 => ⟨_, c_isHouse hz hT.1 hT.2.1 hT.2.2.2.1 hW, ?_⟩⟩
      rintro r M2 ⟨rfl, rfl⟩
      have q3 : 0 ≤ x ∧ x < tn t := by simpa using zo_ne q1
      refine ⟨zo_rng _, fun z => ⟨rfl, FrC.rf⟩, fun q2 => ⟨hx, hz, fun q5 => ?_, fun z => ⟨rfl, FrC.rf⟩⟩⟩
      have q4 : 0 ≤ z ∧ z < tn t := by simpa using zo_ne q2
      refine ⟨fun r M' => r = 0 ∧ M' = M2, W_Standing_addSeen 41 atC_41 _ _ M2 ?_, ?_⟩
      · rw [h2]
        exact ⟨by omega, fun z => absurd ⟨q3, q4, q5, by omega⟩ q, fun _ => ⟨rfl, rfl⟩⟩
      · rintro r M3 ⟨rfl, rfl⟩
        exact ⟨Or.inl rfl, rfl, FrC.rf⟩
    · refine W_Mod_see _ _ N ?_
      rintro N1 rfl
      refine ⟨_, m_isHouse hx hT1 hW, ?_⟩
      rintro r N2 ⟨rfl, rfl⟩
      refine ⟨zo_rng _, fun z => ⟨rfl, thrM, fun i _ => by rw [s34]⟩, fun q1 => ⟨_, m_isHouse hz hT1 hW, ?_⟩⟩
      rintro r N3 ⟨rfl, rfl⟩
      have q3 : 0 ≤ x ∧ x < tn t := by simpa using zo_ne q1
      refine ⟨zo_rng _, fun z => ⟨rfl, thrM, fun i _ => by rw [s34]⟩, fun q2 => ⟨hx, hz, fun z => ⟨rfl, thrM, fun i _ => by rw [s34]⟩, fun q5 => ?_⟩⟩
      have q4 : 0 ≤ z ∧ z < tn t := by simpa using zo_ne q2
      rw [et 31 (by omega), h3]
      exact ⟨by omega, fun z => absurd ⟨q3, q4, q5, by omega⟩ q, fun _ => ⟨rfl, thrM, fun i _ => by rw [s34]⟩⟩
theorem c_YcopyFrom {M : Mm} {b b1 : Nat} (hb : At shC NN b (.inl 8)) (hb1 : At shC NN b1 (.inl 8)) (ha : b + 3 < b1 ∨ b1 + 3 < b) :
    S_Years_copyFrom b b1 M (fun M' => M' b 3 = M b1 3 ∧ (∀ j, 1 ≤ j → j ≤ 3 → ∀ i, i < 40 → M' (b + j) i = M (b1 + j) i) ∧ FrC (fun c => b ≤ c ∧ c ≤ b + 3) M M') := by
  refine W_Years_copyFrom b hb b1 hb1 M ?_
  intro M1 h1 M2 h2 M3 h3 M4 h4
  have cp : ∀ (f g : Nat → Int) (j : Nat), j < 40 → cpI f g 0 0 40 j = f j := fun f g j h => by unfold cpI; rw [if_pos (by omega)]; congr 1; omega
  have e1 : ∀ c, c ≠ b → M1 c = M c := fun c hc => by rw [h1, upr_eq, if_neg hc]
  have e2 : ∀ c, c ≠ b + 1 → M2 c = M1 c := fun c hc => by rw [h2, upr_eq, if_neg hc]
  have e3 : ∀ c, c ≠ b + 2 → M3 c = M2 c := fun c hc => by rw [h3, upr_eq, if_neg hc]
  have e4 : ∀ c, c ≠ b + 3 → M4 c = M3 c := fun c hc => by rw [h4, upr_eq, if_neg hc]
  refine ⟨?_, fun j j1 j3 i hi => ?_, fun c hc => ?_⟩
  · rw [e4 _ (by omega), e3 _ (by omega), e2 _ (by omega), h1, upr_eq, if_pos rfl, up1_eq, if_pos rfl]
  · have : j = 1 ∨ j = 2 ∨ j = 3 := by omega
    rcases this with rfl | rfl | rfl
    · rw [e4 _ (by omega), e3 _ (by omega), h2, upr_eq, if_pos rfl, cp _ _ _ hi, e1 _ (by omega)]
    · rw [e4 _ (by omega), h3, upr_eq, if_pos rfl, cp _ _ _ hi, e2 _ (by omega), e1 _ (by omega)]
    · rw [h4, upr_eq, if_pos rfl, cp _ _ _ hi, e3 _ (by omega), e2 _ (by omega), e1 _ (by omega)]
  · rw [e4 _ (by omega), e3 _ (by omega), e2 _ (by omega), e1 _ (by omega)]
theorem c_ScopyFrom {M : Mm} {b b1 : Nat} (hb : At shC NN b (.inl 4)) (hb1 : At shC NN b1 (.inl 4)) (hs : At shC NN (b + 1) (.inl 5)) (hs1 : At shC NN (b1 + 1) (.inl 5)) (hy : At shC NN (b + 6) (.inl 8)) (hy1 : At shC NN (b1 + 6) (.inl 8)) (ha : b + 11 < b1 ∨ b1 + 11 < b) :
    S_Standing_copyFrom b b1 M (fun M' => (∀ n σ, n ≤ 7 → RS n σ M (b1 + 1) → RS n σ M' (b + 1)) ∧ (M' (b + 6) 3 = M (b1 + 6) 3 ∧ ∀ j, 1 ≤ j → j ≤ 3 → ∀ i, i < 40 → M' (b + 6 + j) i = M (b1 + 6 + j) i) ∧ (M' b 4 = M b1 4 ∧ M' b 5 = M b1 5 ∧ (∀ i, i < 8 → M' (b + 10) i = M (b1 + 10) i) ∧ (∀ i, i < 8 → M' (b + 11) i = M (b1 + 11) i)) ∧ FrC (fun c => b ≤ c ∧ c ≤ b + 11) M M') := by
  refine W_Standing_copyFrom b hb b1 hb1 M ⟨_, c_copyFrom hs hs1 (by omega), ?_⟩
  rintro M1 ⟨r1, f1⟩
  refine ⟨_, c_YcopyFrom hy hy1 (by omega), ?_⟩
  rintro M2 ⟨y1, y2, f2⟩
  intro M3 h3 M4 h4 M5 h5 M6 h6
  have cp : ∀ (f g : Nat → Int) (j : Nat), j < 8 → cpI f g 0 0 8 j = f j := fun f g j h => by unfold cpI; rw [if_pos (by omega)]; congr 1; omega
  have e3 : ∀ c, c ≠ b + 10 → M3 c = M2 c := fun c hc => by rw [h3, upr_eq, if_neg hc]
  have e4 : ∀ c, c ≠ b + 11 → M4 c = M3 c := fun c hc => by rw [h4, upr_eq, if_neg hc]
  have e5 : ∀ c, c ≠ b → M5 c = M4 c := fun c hc => by rw [h5, upr_eq, if_neg hc]
  have e6 : ∀ c, c ≠ b → M6 c = M5 c := fun c hc => by rw [h6, upr_eq, if_neg hc]
  have k2 : ∀ c, ¬ (b ≤ c ∧ c ≤ b + 9) → M2 c = M c := fun c hc => by rw [f2 c (by omega), f1 c (by omega)]
  have k6 : ∀ c, c ≠ b → c ≠ b + 10 → c ≠ b + 11 → M6 c = M2 c := fun c g1 g2 g3 => by rw [e6 c g1, e5 c g1, e4 c g3, e3 c g2]
  have kb : M4 b1 = M b1 := by rw [e4 _ (by omega), e3 _ (by omega), k2 _ (by omega)]
  refine ⟨fun n σ hn hS => ?_, ⟨?_, fun j j1 j3 i hi => ?_⟩, ⟨?_, ?_, fun i hi => ?_, fun i hi => ?_⟩, fun c hc => ?_⟩
  · refine (r1 n σ hn hS).fr (fun i hi => ?_)
    rw [k6 _ (by omega) (by omega) (by omega), f2 _ (by omega)]
  · rw [k6 _ (by omega) (by omega) (by omega), y1, f1 _ (by omega)]
  · rw [k6 _ (by omega) (by omega) (by omega), y2 j j1 j3 i hi, f1 _ (by omega)]
  · rw [h6, upr_eq, if_pos rfl, up1_eq, if_neg (by omega), h5, upr_eq, if_pos rfl, up1_eq, if_pos rfl, kb]
  · rw [h6, upr_eq, if_pos rfl, up1_eq, if_pos rfl, e5 _ (by omega), kb]
  · rw [e6 _ (by omega), e5 _ (by omega), e4 _ (by omega), h3, upr_eq, if_pos rfl, cp _ _ _ hi, k2 _ (by omega)]
  · rw [e6 _ (by omega), e5 _ (by omega), h4, upr_eq, if_pos rfl, cp _ _ _ hi, e3 _ (by omega), k2 _ (by omega)]
  · rw [k6 _ (by omega) (by omega) (by omega), k2 _ (by omega)]
theorem m_laysLines {N : Mm} {a b : Nat} (ha : a < 6) (hb : b < 6) (hne : a ≠ b) :
    S_Mod_laysLines (a : Int) (b : Int) N (fun N' => N' 26 = up1 (N 26) b (N 26 a) ∧ (∀ c, 27 ≤ c → c ≤ 29 → ∀ j, N' c j = if 40 * b ≤ j ∧ j < 40 * b + 40 then N c (40 * a + (j - 40 * b)) else N c j) ∧ FrM (fun c => 26 ≤ c ∧ c ≤ 29) (fun _ => False) N N') := by
  refine e_Mod_laysLines _ _ N fun K hK => w_Mod_laysLines_0 hK _ _ N ⟨by omega, by omega, ?_⟩
  rintro N1 rfl
  rw [Int.toNat_natCast, Int.toNat_natCast]
  have key : ∀ k, k ≤ 40 → ∀ N1 : Mm, N1 26 = up1 (N 26) b (N 26 a) → (∀ c, 27 ≤ c → c ≤ 29 → ∀ j, N1 c j = if 40 * b ≤ j ∧ j < 40 * b + k then N c (40 * a + (j - 40 * b)) else N c j) → FrM (fun c => 26 ≤ c ∧ c ≤ 29) (fun _ => False) N N1 → K NM RRM 14 [(0, vr 1), (1, vi (a : Int)), (2, vi (b : Int)), (3, vi (k : Int))] [] N1 := by
    refine up_ind ?_ ?_
    · intro N1 h1 h2 h3
      exact w_Mod_laysLines_14 hK _ _ _ N1 ⟨by decide, fun _ => ⟨h1, h2, h3⟩, fun z => absurd (by decide) z⟩
    · intro k hk ih N1 h1 h2 h3
      refine w_Mod_laysLines_14 hK _ _ _ N1 ⟨by omega, fun z => by omega, fun _ => ⟨by omega, by omega, ?_⟩⟩
      have ta : ((40 : Int) * a + k).toNat = 40 * a + k := by omega
      have tb : ((40 : Int) * b + k).toNat = 40 * b + k := by omega
      rw [ta, tb]
      rintro N2 rfl
      refine ⟨by omega, by omega, ?_⟩
      rintro N3 rfl
      refine ⟨by omega, by omega, ?_⟩
      rintro N4 rfl
      refine ih _ ?_ ?_ (((h3.tr (FrM.up (c := 27) (by omega) (by omega))).tr (FrM.up (c := 28) (by omega) (by omega))).tr (FrM.up (c := 29) (by omega) (by omega)))
      · rw [upr_eq, if_neg (by omega), upr_eq, if_neg (by omega), upr_eq, if_neg (by omega)]; exact h1
      · intro c c1 c2 j
        have hx : ∀ G : Mm, (∀ c, 27 ≤ c → c ≤ 29 → G c = N1 c) → up1 (G c) (40 * b + k) (G c (40 * a + k)) j = if 40 * b ≤ j ∧ j < 40 * b + (k + 1) then N c (40 * a + (j - 40 * b)) else N c j := by
          intro G hG
          rw [hG c c1 c2, up1_eq, h2 c c1 c2, h2 c c1 c2, if_neg (show ¬ (40 * b ≤ 40 * a + k ∧ 40 * a + k < 40 * b + k) by omega)]
          by_cases e : j = 40 * b + k
          · rw [if_pos e, if_pos (by omega)]; congr 1; omega
          · rw [if_neg e]
            by_cases e2 : 40 * b ≤ j ∧ j < 40 * b + k
            · rw [if_pos e2, if_pos (by omega)]
            · rw [if_neg e2, if_neg (by omega)]
        have hc : c = 27 ∨ c = 28 ∨ c = 29 := by omega
        rcases hc with rfl | rfl | rfl
        · rw [upr_eq, if_neg (by omega), upr_eq, if_neg (by omega), upr_eq, if_pos rfl]
          exact hx N1 (fun _ _ _ => rfl)
        · have := hx N1 (fun _ _ _ => rfl)
          rw [upr_eq, if_neg (by omega), upr_eq, if_pos rfl, upr_eq N1 27 _ 28, if_neg (by omega)]
          exact this
        · have := hx N1 (fun _ _ _ => rfl)
          rw [upr_eq, if_pos rfl, upr_eq _ 28 _ 29, if_neg (by omega), upr_eq N1 27 _ 29, if_neg (by omega)]
          exact this
  refine key 0 (by omega) _ (by rw [upr_eq, if_pos rfl]) (fun c c1 c2 j => ?_) (FrM.up (c := 26) (by omega) (by omega))
  rw [upr_eq, if_neg (by omega), if_neg (by omega)]
theorem m_laysSeen {N : Mm} {a b : Nat} (ha : a < 5) (hb : b < 5) (hne : a ≠ b) :
    S_Mod_laysSeen (a : Int) (b : Int) N (fun N' => N' 30 = up1 (N 30) b (N 30 a) ∧ N' 31 = up1 (N 31) b (N 31 a) ∧ (∀ c, 32 ≤ c → c ≤ 33 → ∀ j, N' c j = if 8 * b ≤ j ∧ j < 8 * b + 8 then N c (8 * a + (j - 8 * b)) else N c j) ∧ FrM (fun c => 30 ≤ c ∧ c ≤ 33) (fun _ => False) N N') := by
  refine e_Mod_laysSeen _ _ N fun K hK => w_Mod_laysSeen_0 hK _ _ N ⟨by omega, by omega, ?_⟩
  rintro N1 rfl
  refine ⟨by omega, by omega, ?_⟩
  rintro N2 rfl
  rw [Int.toNat_natCast, Int.toNat_natCast]
  have key : ∀ k, k ≤ 8 → ∀ N1 : Mm, N1 30 = up1 (N 30) b (N 30 a) → N1 31 = up1 (N 31) b (N 31 a) → (∀ c, 32 ≤ c → c ≤ 33 → ∀ j, N1 c j = if 8 * b ≤ j ∧ j < 8 * b + k then N c (8 * a + (j - 8 * b)) else N c j) → FrM (fun c => 30 ≤ c ∧ c ≤ 33) (fun _ => False) N N1 → K NM RRM 26 [(0, vr 1), (1, vi (a : Int)), (2, vi (b : Int)), (3, vi (k : Int))] [] N1 := by
    refine up_ind ?_ ?_
    · intro N1 h0 h1 h2 h3
      exact w_Mod_laysSeen_26 hK _ _ _ N1 ⟨by decide, fun _ => ⟨h0, h1, h2, h3⟩, fun z => absurd (by decide) z⟩
    · intro k hk ih N1 h0 h1 h2 h3
      refine w_Mod_laysSeen_26 hK _ _ _ N1 ⟨by omega, fun z => by omega, fun _ => ⟨by omega, by omega, ?_⟩⟩
      have ta : ((8 : Int) * a + k).toNat = 8 * a + k := by omega
      have tb : ((8 : Int) * b + k).toNat = 8 * b + k := by omega
      rw [ta, tb]
      rintro N2 rfl
      refine ⟨by omega, by omega, ?_⟩
      rintro N3 rfl
      refine ih _ ?_ ?_ ?_ ((h3.tr (FrM.up (c := 32) (by omega) (by omega))).tr (FrM.up (c := 33) (by omega) (by omega)))
      · rw [upr_eq, if_neg (by omega), upr_eq, if_neg (by omega)]; exact h0
      · rw [upr_eq, if_neg (by omega), upr_eq, if_neg (by omega)]; exact h1
      · intro c c1 c2 j
        have hx : up1 (N1 c) (8 * b + k) (N1 c (8 * a + k)) j = if 8 * b ≤ j ∧ j < 8 * b + (k + 1) then N c (8 * a + (j - 8 * b)) else N c j := by
          rw [up1_eq, h2 c c1 c2, h2 c c1 c2, if_neg (show ¬ (8 * b ≤ 8 * a + k ∧ 8 * a + k < 8 * b + k) by omega)]
          by_cases e : j = 8 * b + k
          · rw [if_pos e, if_pos (by omega)]; congr 1; omega
          · rw [if_neg e]
            by_cases e2 : 8 * b ≤ j ∧ j < 8 * b + k
            · rw [if_pos e2, if_pos (by omega)]
            · rw [if_neg e2, if_neg (by omega)]
        have hc : c = 32 ∨ c = 33 := by omega
        rcases hc with rfl | rfl
        · rw [upr_eq, if_neg (by omega), upr_eq, if_pos rfl]
          exact hx
        · rw [upr_eq, if_pos rfl, upr_eq N1 32 _ 33, if_neg (by omega)]
          exact hx
  refine key 0 (by omega) _ ?_ ?_ (fun c c1 c2 j => ?_) ((FrM.up (c := 30) (by omega) (by omega)).tr (FrM.up (c := 31) (by omega) (by omega)))
  · rw [upr_eq, if_neg (by omega), upr_eq, if_pos rfl]
  · rw [upr_eq, if_pos rfl, upr_eq N 30 _ 31, if_neg (by omega)]
  · rw [upr_eq, if_neg (by omega), upr_eq, if_neg (by omega), if_neg (by omega)]
