def vHouse (t : TT) (σ : Nat → Int) (x z : Int) : Int :=
  if 0 ≤ x ∧ x < tn t then (if z = 0 then tkind t x.toNat else if z = 1 then σ (12 + x.toNat) else if z = 2 then σ (19 + x.toNat) else if z = 3 then tink t x.toNat else if z = 4 then σ (26 + x.toNat) else if z = 5 then (if gosB σ x.toNat = true then 0 else 1) else if z = 6 then (plo σ x (tn t) : Int) else -1) else -1
theorem c_house {t : TT} {tb B : Nat} {M N : Mm} {x z : Int} (hx : rng x) (hz : rng z) (h : Sim t tb B M N) : S_Main_house x z M (PC tb M (vHouse t (N 34) x z)) := by
  obtain ⟨hW, hT, hS, hN, -⟩ := h
  have hn := hW.1
  refine W_Main_house _ _ M ⟨_, c_isHouse hx hT.1 hT.2.1 hT.2.2.2.1 hW, ?_⟩
  rintro r M1 ⟨rfl, rfl⟩
  refine ⟨zo_rng _, fun q => ?_, fun q => ⟨?_, FrC.rf⟩⟩
  · have q2 : 0 ≤ x ∧ x < tn t := by simpa using zo_ne q
    obtain ⟨k, rfl⟩ : ∃ k : Nat, x = (k : Int) := ⟨x.toNat, by omega⟩
    have hk : k < tn t := by omega
    have hr := hT.2.2.2.1
    obtain ⟨s1, s2, s3, s4⟩ := hN.1.2 k hk
    unfold vHouse
    rw [Int.toNat_natCast, if_pos q2]
    refine ⟨hz, fun e => ?_, fun e => ?_, fun e => ?_, fun e => ?_, fun e => ?_, fun e => ?_, fun e => ?_, fun e => ?_⟩
    · subst e; exact ⟨tb, hT.2.1, at_tb hT.1, by omega, by simpa using (hr.2.1 k hk).1, FrC.rf⟩
    · subst e; exact ⟨by omega, by simpa using s2, FrC.rf⟩
    · subst e; exact ⟨by omega, by simpa using s3, FrC.rf⟩
    · subst e; exact ⟨tb, hT.2.1, at_tb hT.1, by omega, by simpa using (hr.2.1 k hk).2.1, FrC.rf⟩
    · subst e; exact ⟨by omega, by simpa using s4, FrC.rf⟩
    · subst e
      refine ⟨_, c_goes atC_42 hN.1 hN.2 (by omega), ?_⟩
      rintro r2 M2 ⟨rfl, rfl⟩
      refine ⟨zo_rng _, fun z => ⟨by simp [zo_0 z], FrC.rf⟩, fun z => ⟨by simp [zo_ne z], FrC.rf⟩⟩
    · subst e
      obtain ⟨p, hp, hpk⟩ := hN.2.place (h := k) hk
      refine ⟨tb, hT.2.1, at_tb hT.1, ?_⟩
      rw [hr.1.1]
      refine ⟨_, c_placeOf atC_42 hN.1 hN.2 hn hp hpk, ?_⟩
      rintro r2 M2 ⟨rfl, rfl⟩
      exact ⟨by rw [← hpk, plo_at hN.2 hp]; simp, FrC.rf⟩
    · obtain ⟨e0, e1, e2, e3, e4, e5, e6⟩ := e
      exact ⟨by rw [if_neg e0, if_neg e1, if_neg e2, if_neg e3, if_neg e4, if_neg e5, if_neg e6], FrC.rf⟩
  · have := zo_0 q
    unfold vHouse; rw [if_neg (by simpa using this)]
theorem m_house {t : TT} {tb B : Nat} {M N : Mm} {x z : Int} (hx : rng x) (hz : rng z) (h : Sim t tb B M N) : S_Mod_house x z N (PN N (vHouse t (N 34) x z)) := by
  obtain ⟨hW, hT, hS, hN, -⟩ := h
  have hn := hW.1
  refine W_Mod_house _ _ N ?_
  rintro N1 rfl
  have hT1 := hT.2.2.2.2.1.thr
  have fin : ∀ v w : Int, v = w → PN N w v (upr N 1 (up1 (N 1) 0 0)) := fun v w e => ⟨e, thrM, fun i _ => by rw [s34]⟩
  refine ⟨_, m_isHouse hx hT1 hW, ?_⟩
  rintro r N2 ⟨rfl, rfl⟩
  refine ⟨zo_rng _, fun q => fin _ _ ?_, fun q => ?_⟩
  · have := zo_0 q
    unfold vHouse; rw [if_neg (by simpa using this)]
  · have q2 : 0 ≤ x ∧ x < tn t := by simpa using zo_ne q
    obtain ⟨k, rfl⟩ : ∃ k : Nat, x = (k : Int) := ⟨x.toNat, by omega⟩
    have hk : k < tn t := by omega
    obtain ⟨s1, s2, s3⟩ := hT1.2.1 k hk
    refine ⟨_, m_within hz (by omega) (by omega), ?_⟩
    rintro r2 N3 ⟨rfl, rfl⟩
    unfold vHouse
    rw [Int.toNat_natCast, if_pos q2]
    have t1 : ((26 : Int) + k).toNat = 26 + k := by omega
    have t2 : ((19 : Int) + k).toNat = 19 + k := by omega
    have t3 : ((12 : Int) + k).toNat = 12 + k := by omega
    refine ⟨zo_rng _, fun q3 => ?_, fun q3 => fin _ _ ?_⟩
    · have q4 : 0 ≤ z ∧ z ≤ 6 := by simpa using zo_ne q3
      refine ⟨hz, fun a => ⟨hz, fun b => ⟨hz, fun c => ?_, fun c => fin _ _ ?_⟩, fun b => ⟨hz, fun c => ⟨by omega, fin _ _ ?_⟩, fun c => ⟨by omega, fin _ _ ?_⟩⟩⟩, fun a => ⟨hz, fun b => ⟨hz, fun c => ⟨by omega, fin _ _ ?_⟩, fun c => ⟨by omega, fin _ _ ?_⟩⟩, fun b => ⟨by omega, fin _ _ ?_⟩⟩⟩
      · have e : z = 6 := by omega
        subst e
        obtain ⟨p, hp, hpk⟩ := hN.2.place (h := k) hk
        refine ⟨_, m_placeOf s34 hN.2 hn hp hpk, ?_⟩
        rintro r2 M2 ⟨rfl, rfl⟩
        exact fin _ _ (by rw [← hpk, plo_at hN.2 hp]; simp)
      · subst c
        obtain ⟨a4, ha⟩ : ∃ a : Nat, N 34 4 = (a : Int) := ⟨(N 34 4).toNat, by have := hN.2.2.2.2.1.1; omega⟩
        have h1 := hN.2.2.2.2.1.2.1
        rw [s34, ha, bit1 (by omega) (by omega)]
        unfold gosB
        rw [ha, Int.toNat_natCast]
        cases a4.testBit k <;> simp
      · have e : z = 4 := by omega
        subst e; rw [s34, t1]; simp
      · subst c; rw [s2]; simp
      · have e : z = 2 := by omega
        subst e; rw [s34, t2]; simp
      · subst c; rw [s34, t3]; simp
      · subst b; rw [s1]; simp
    · have q4 : ¬ (0 ≤ z ∧ z ≤ 6) := by simpa using zo_0 q3
      rw [if_neg (by omega), if_neg (by omega), if_neg (by omega), if_neg (by omega), if_neg (by omega), if_neg (by omega), if_neg (by omega)]
theorem op_house {t : TT} {tb B : Nat} {M N : Mm} {x z : Int} (hx : rng x) (hz : rng z) (h : Sim t tb B M N) : Op (S_Main_house x z) (S_Mod_house x z) B M N := Op.ask h (c_house hx hz h) (m_house hx hz h)
theorem op_count {t : TT} {tb B : Nat} {M N : Mm} {x : Int} (hx : rng x) (hB : B < 100000) (h : Sim t tb B M N) : Op (S_Main_count x) (S_Mod_count x) B M N := by
  have h0 := h
  obtain ⟨hW, hT, hS, hN, hP, hY, hH, hU, hM⟩ := h
  have hn := hW.1
  have hr := hT.2.2.2.1
  have hT1 := hT.2.2.2.2.1.thr
  obtain ⟨a1, a2, a3, a4, a5⟩ := hN.1.1
  obtain ⟨L, y1, y2, -⟩ := hY
  obtain ⟨⟨g1, -⟩, K, g2, g3, -⟩ := hH
  obtain ⟨nx, d, u1, u2, u3, u4, u5, -⟩ := hU
  obtain ⟨len, p1, p2, -⟩ := hP
  have hf := hN.2.1
  have et : ∀ c, c ≠ 1 → (upr N 1 (up1 (N 1) 0 0)) c = N c := fun c hc => by rw [upr_eq, if_neg hc]
  have e1 : ∀ k, k ≠ 0 → (upr N 1 (up1 (N 1) 0 0)) 1 k = N 1 k := fun k hk => by rw [upr_eq, if_pos rfl, up1_eq, if_neg hk]
  refine Op.ask (v := if x = 0 then (tn t : Int) else if x = 1 then N 34 1 else if x = 2 then tprice t else if x = 3 then N 34 0 else if x = 4 then rainA t (N 34) else if x = 5 then N 34 4 else if x = 6 then N 34 2 else if x = 7 then N 34 3 else if x = 8 then sm (fun h => N 34 (19 + h)) (tn t) else if x = 9 then sm (fun h => N 34 (26 + h)) (tn t) else if x = 10 then (L : Int) else if x = 11 then (K : Int) else if x = 12 then N 30 0 else if x = 13 then (d : Int) else if x = 14 then (len : Int) else -1) h0 ?_ ?_
  · refine W_Main_count _ M ?_
    refine ⟨hx, fun e => ?_, fun e => ?_, fun e => ?_, fun e => ?_, fun e => ?_, fun e => ?_, fun e => ?_, fun e => ?_, fun e => ?_, fun e => ?_, fun e => ?_, fun e => ?_, fun e => ?_, fun e => ?_, fun e => ?_, fun e => ?_⟩
    · subst e; exact ⟨tb, hT.2.1, at_tb hT.1, by simpa using hr.1.1, FrC.rf⟩
    · subst e; exact ⟨by simpa using a2, FrC.rf⟩
    · subst e; exact ⟨tb, hT.2.1, at_tb hT.1, by simpa using hr.1.2.1, FrC.rf⟩
    · subst e; exact ⟨by simpa using a1, FrC.rf⟩
    · subst e
      refine ⟨tb, hT.2.1, at_tb hT.1, ?_⟩
      obtain ⟨a, ha⟩ : ∃ a : Nat, N 34 0 = (a : Int) := ⟨(N 34 0).toNat, by omega⟩
      rw [a1, ha]
      refine ⟨_, c_rainOf (at_tb hT.1) hr hW (by omega), ?_⟩
      rintro r M2 ⟨rfl, rfl⟩
      refine ⟨?_, FrC.rf⟩
      simp
      unfold rainA
      rw [ha, Int.toNat_natCast]
    · subst e; exact ⟨by simpa using a5, FrC.rf⟩
    · subst e; exact ⟨by simpa using a3, FrC.rf⟩
    · subst e; exact ⟨by simpa using a4, FrC.rf⟩
    · subst e
      refine ⟨tb, hT.2.1, at_tb hT.1, ?_⟩
      rw [hr.1.1]
      refine ⟨_, c_allWet atC_42 hN.1 hn, ?_⟩
      rintro r M2 ⟨rfl, rfl⟩
      exact ⟨by simp, FrC.rf⟩
    · subst e
      refine ⟨tb, hT.2.1, at_tb hT.1, ?_⟩
      rw [hr.1.1]
      refine ⟨_, c_allPrinted atC_42 hN.1 hn, ?_⟩
      rintro r M2 ⟨rfl, rfl⟩
      exact ⟨by simp, FrC.rf⟩
    · subst e; exact ⟨by simpa using y1, FrC.rf⟩
    · subst e; exact ⟨by simpa using g2, FrC.rf⟩
    · subst e; exact ⟨by simpa using g1, FrC.rf⟩
    · subst e; exact ⟨by simpa using u2, FrC.rf⟩
    · subst e; exact ⟨by simpa using p1, FrC.rf⟩
    · refine ⟨?_, FrC.rf⟩
      simp [e]
  · refine W_Mod_count _ N ?_
    rintro N1 rfl
    have fin : ∀ v w : Int, v = w → PN N w v (upr N 1 (up1 (N 1) 0 0)) := fun v w e => ⟨e, thrM, fun i _ => by rw [s34]⟩
    refine ⟨_, m_within hx (by omega) (by omega), ?_⟩
    rintro r2 N3 ⟨rfl, rfl⟩
    refine ⟨zo_rng _, fun q3 => ?_, fun q3 => fin _ _ ?_⟩
    · have q4 : 0 ≤ x ∧ x ≤ 14 := by simpa using zo_ne q3
      rw [et 34 (by omega), et 30 (by omega), et 31 (by omega), et 26 (by omega), e1 1 (by omega), e1 50 (by omega), et 3 (by omega)]
      have tg : ∀ k0 : Nat, k0 ≤ 26 → S_Mod_together (k0 : Int) (upr N 1 (up1 (N 1) 0 0)) (fun r N' => N' = upr N 1 (up1 (N 1) 0 0) ∧ r = sm (fun h => N 34 (k0 + h)) (tn t)) := fun k0 hk => m_together hT1 hW s34 hk
      refine ⟨hx, fun a => ⟨hx, fun b => ⟨hx, fun c => ⟨hx, fun f => ⟨hx, fun g => ?_, fun g => ?_⟩, fun f => ⟨hx, fun g => ?_, fun g => ?_⟩⟩, fun c => ⟨hx, fun f => ⟨hx, fun g => ?_, fun g => ?_⟩, fun f => ?_⟩⟩, fun b => ⟨hx, fun c => ⟨hx, fun f => ⟨hx, fun g => ?_, fun g => ?_⟩, fun f => ?_⟩, fun c => ?_⟩⟩, fun a => ⟨hx, fun b => ⟨hx, fun c => ⟨hx, fun f => ?_, fun f => ?_⟩, fun c => ?_⟩, fun b => ?_⟩⟩
      · have e : x = 14 := by omega
        subst e; exact fin _ _ (by simpa using p2)
      · subst g; exact fin _ _ (by simpa using u3)
      · have e : x = 12 := by omega
        subst e; exact fin _ _ (by simp)
      · subst g; exact fin _ _ (by simpa using g3)
      · have e : x = 10 := by omega
        subst e; exact fin _ _ (by simpa using y2)
      · subst g
        refine ⟨_, tg 26 (by omega), ?_⟩
        rintro r N2 ⟨rfl, rfl⟩
        exact fin _ _ (by simp)
      · subst f
        refine ⟨_, tg 19 (by omega), ?_⟩
        rintro r N2 ⟨rfl, rfl⟩
        exact fin _ _ (by simp)
      · have e : x = 7 := by omega
        subst e; exact fin _ _ (by simp)
      · subst g; exact fin _ _ (by simp)
      · subst f; exact fin _ _ (by simp)
      · subst c
        refine ⟨_, m_rainNow hT1 hW s34 hN.2 (by omega), ?_⟩
        rintro r N2 ⟨rfl, rfl⟩
        exact fin _ _ (by simp)
      · have e : x = 3 := by omega
        subst e; exact fin _ _ (by simp)
      · subst f; exact fin _ _ (by simpa using hT.2.2.2.2.1.1.2.1)
      · subst c; exact fin _ _ (by simp)
      · subst b; exact fin _ _ (by simpa using hT.2.2.2.2.1.1.1)
    · have q4 : ¬ (0 ≤ x ∧ x ≤ 14) := by simpa using zo_0 q3
      rw [if_neg (by omega), if_neg (by omega), if_neg (by omega), if_neg (by omega), if_neg (by omega), if_neg (by omega), if_neg (by omega), if_neg (by omega), if_neg (by omega), if_neg (by omega), if_neg (by omega), if_neg (by omega), if_neg (by omega), if_neg (by omega), if_neg (by omega)]
