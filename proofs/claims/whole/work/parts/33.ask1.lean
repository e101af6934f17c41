abbrev PC (tb : Nat) (M : Mm) (v : Int) : Int → Mm → Prop := fun r M' => r = v ∧ FrC (scC tb) M M'
abbrev PN (N : Mm) (v : Int) : Int → Mm → Prop := fun r N' => r = v ∧ FrM scM scQ N N' ∧ ∀ i, i < 33 → N' 34 i = N 34 i
theorem at_tb {tb : Nat} (h : tb = 4 ∨ tb = 18) : At shC NN tb (.inl 7) := by rcases h with rfl | rfl; exact atC_4; exact atC_18
theorem zo_ne {p : Bool} (h : zo p ≠ 0) : p = true := by cases p; exact absurd rfl h; rfl
theorem zo_0 {p : Bool} (h : zo p = 0) : p = false := by cases p; rfl; cases h
theorem c_isHouse {t : TT} {tb : Nat} {M : Mm} {x : Int} (hx : rng x) (htb : tb = 4 ∨ tb = 18) (h1 : M 1 1 = (tb : Int)) (hT : RT t M tb) (hW : WT t) : S_Main_isHouse x M (fun r M' => M' = M ∧ r = zo (decide (0 ≤ x ∧ x < tn t))) := by
  have hn := hW.1
  refine W_Main_isHouse _ M ⟨hx, fun q => ⟨rfl, ?_⟩, fun q => ⟨tb, h1, at_tb htb, hx, ?_⟩⟩
  · rw [decide_eq_false (by omega)]; rfl
  · rw [hT.1.1]
    refine ⟨by omega, fun q2 => ⟨rfl, ?_⟩, fun q2 => ⟨rfl, ?_⟩⟩
    · rw [decide_eq_false (by omega)]; rfl
    · rw [decide_eq_true (by omega)]; rfl
theorem m_isHouse {t : TT} {N : Mm} {x : Int} (hx : rng x) (hT : RM t N) (hW : WT t) : S_Mod_isHouse x N (fun r N' => N' = N ∧ r = zo (decide (0 ≤ x ∧ x < tn t))) := by
  have hn := hW.1
  refine W_Mod_isHouse _ N ⟨hx, fun q => ⟨rfl, ?_⟩, fun q => ⟨hx, ?_⟩⟩
  · rw [decide_eq_false (by omega)]; rfl
  · rw [hT.1.1]
    refine ⟨by omega, fun q2 => ⟨rfl, ?_⟩, fun q2 => ⟨rfl, ?_⟩⟩
    · rw [decide_eq_false (by omega)]; rfl
    · rw [decide_eq_true (by omega)]; rfl
theorem m_within {N : Mm} {x a b : Int} (hx : rng x) (ha : rng a) (hb : rng b) : S_Mod_within x a b N (fun r N' => N' = N ∧ r = zo (decide (a ≤ x ∧ x ≤ b))) := by
  refine W_Mod_within _ _ _ N ⟨hx, ha, fun q => ⟨rfl, ?_⟩, fun q => ⟨hx, hb, fun q2 => ⟨rfl, ?_⟩, fun q2 => ⟨rfl, ?_⟩⟩⟩
  · rw [decide_eq_false (by omega)]; rfl
  · rw [decide_eq_false (by omega)]; rfl
  · rw [decide_eq_true (by omega)]; rfl
theorem c_isGoing {t : TT} {tb B : Nat} {M N : Mm} {x : Int} (hx : rng x) (h : Sim t tb B M N) : S_Main_isGoing x M (fun r M' => M' = M ∧ r = zo (decide (0 ≤ x ∧ x < tn t) && gosB (N 34) x.toNat)) := by
  obtain ⟨hW, hT, hS, hN, -⟩ := h
  have hn := hW.1
  refine W_Main_isGoing _ M ⟨_, c_isHouse hx hT.1 hT.2.1 hT.2.2.2.1 hW, ?_⟩
  rintro r M1 ⟨rfl, rfl⟩
  refine ⟨zo_rng _, fun q => ⟨rfl, ?_⟩, fun q => ?_⟩
  · rw [zo_0 q]; rfl
  · have q1 := zo_ne q
    have q2 : 0 ≤ x ∧ x < tn t := by simpa using q1
    obtain ⟨k, rfl⟩ : ∃ k : Nat, x = (k : Int) := ⟨x.toNat, by omega⟩
    refine ⟨_, c_goes atC_42 hN.1 hN.2 (by omega), ?_⟩
    rintro r2 M2 ⟨rfl, rfl⟩
    rw [q1, Int.toNat_natCast]
    refine ⟨zo_rng _, fun q3 => ⟨rfl, ?_⟩, fun q3 => ⟨rfl, ?_⟩⟩
    · rw [zo_0 q3]; rfl
    · rw [zo_ne q3]; rfl
/-- the model's calls begin by 'thrown = 0' -/
theorem thrM {N : Mm} : FrM scM scQ N (upr N 1 (up1 (N 1) 0 0)) := FrM.u1 (Or.inl rfl)
theorem RM.thr {t : TT} {N : Mm} (h : RM t N) : RM t (upr N 1 (up1 (N 1) 0 0)) := h.fr (by rw [upr_eq, if_neg (by omega)]) (fun c _ _ => by rw [upr_eq, if_neg (by omega)])
theorem s34 {N : Mm} : (upr N 1 (up1 (N 1) 0 0)) 34 = N 34 := by rw [upr_eq, if_neg (by omega)]
def vOrder (t : TT) (σ : Nat → Int) (x : Int) : Int := if 0 ≤ x ∧ x < tn t then σ (5 + x.toNat) else -1
theorem c_order {t : TT} {tb B : Nat} {M N : Mm} {x : Int} (hx : rng x) (h : Sim t tb B M N) : S_Main_order x M (PC tb M (vOrder t (N 34) x)) := by
  obtain ⟨hW, hT, hS, hN, -⟩ := h
  have hn := hW.1
  refine W_Main_order _ M ⟨_, c_isHouse hx hT.1 hT.2.1 hT.2.2.2.1 hW, ?_⟩
  rintro r M1 ⟨rfl, rfl⟩
  refine ⟨zo_rng _, fun q => ⟨?_, FrC.rf⟩, fun q => ⟨?_, ?_, FrC.rf⟩⟩
  · have := zo_0 q
    unfold vOrder; rw [if_neg (by simpa using this)]
  · have : 0 ≤ x ∧ x < tn t := by simpa using zo_ne q
    omega
  · have q2 : 0 ≤ x ∧ x < tn t := by simpa using zo_ne q
    unfold vOrder; rw [if_pos q2]
    exact (hN.1.2 x.toNat (by omega)).1
theorem m_order {t : TT} {tb B : Nat} {M N : Mm} {x : Int} (hx : rng x) (h : Sim t tb B M N) : S_Mod_order x N (PN N (vOrder t (N 34) x)) := by
  obtain ⟨hW, hT, hS, hN, -⟩ := h
  have hn := hW.1
  refine W_Mod_order _ N ?_
  rintro N1 rfl
  refine ⟨_, m_isHouse hx hT.2.2.2.2.1.thr hW, ?_⟩
  rintro r N2 ⟨rfl, rfl⟩
  refine ⟨zo_rng _, fun q => ⟨?_, thrM, fun i _ => by rw [s34]⟩, fun q => ⟨?_, ?_, thrM, fun i _ => by rw [s34]⟩⟩
  · have := zo_0 q
    unfold vOrder; rw [if_neg (by simpa using this)]
  · have : 0 ≤ x ∧ x < tn t := by simpa using zo_ne q
    omega
  · have q2 : 0 ≤ x ∧ x < tn t := by simpa using zo_ne q
    unfold vOrder; rw [if_pos q2, s34]
    congr 1; omega
def vAhead (t : TT) (σ : Nat → Int) (x : Int) : Int := if (0 ≤ x ∧ x < tn t) ∧ gosB σ x.toNat = true then ahd t σ (plo σ x (tn t)) else -1
theorem c_ahead {t : TT} {tb B : Nat} {M N : Mm} {x : Int} (hx : rng x) (h : Sim t tb B M N) : S_Main_ahead x M (PC tb M (vAhead t (N 34) x)) := by
  refine W_Main_ahead _ M ⟨_, c_isGoing hx h, ?_⟩
  obtain ⟨hW, hT, hS, hN, -⟩ := h
  rintro r M1 ⟨rfl, rfl⟩
  refine ⟨zo_rng _, fun q => ⟨?_, FrC.rf⟩, fun q => ⟨tb, hT.2.1, at_tb hT.1, ?_⟩⟩
  · have := zo_0 q
    unfold vAhead; rw [if_neg (fun z => by simp [z.1.1, z.1.2, z.2] at this)]
  · have q1 := zo_ne q
    simp at q1
    obtain ⟨k, rfl⟩ : ∃ k : Nat, x = (k : Int) := ⟨x.toNat, by omega⟩
    obtain ⟨p, hp, hpk⟩ := hN.2.place (h := k) (by omega)
    refine ⟨_, c_nextAhead atC_42 (at_tb hT.1) hT.2.2.2.1 hW hN.1 hN.2 hp hpk, ?_⟩
    rintro r2 M2 ⟨rfl, rfl⟩
    refine ⟨?_, FrC.rf⟩
    unfold vAhead; rw [if_pos ⟨q1.1, q1.2⟩, ← hpk, plo_at hN.2 hp]
theorem m_ahead {t : TT} {tb B : Nat} {M N : Mm} {x : Int} (hx : rng x) (h : Sim t tb B M N) : S_Mod_ahead x N (PN N (vAhead t (N 34) x)) := by
  obtain ⟨hW, hT, hS, hN, -⟩ := h
  have hn := hW.1
  refine W_Mod_ahead _ N ?_
  rintro N1 rfl
  have hT1 := hT.2.2.2.2.1.thr
  refine ⟨_, m_isHouse hx hT1 hW, ?_⟩
  rintro r N2 ⟨rfl, rfl⟩
  refine ⟨zo_rng _, fun q => ⟨?_, thrM, fun i _ => by rw [s34]⟩, fun q => ?_⟩
  · have := zo_0 q
    unfold vAhead; rw [if_neg (fun z => by simp [z.1.1, z.1.2] at this)]
  · have q2 : 0 ≤ x ∧ x < tn t := by simpa using zo_ne q
    obtain ⟨k, rfl⟩ : ∃ k : Nat, x = (k : Int) := ⟨x.toNat, by omega⟩
    refine ⟨_, m_isGoing s34 hN.2 (by omega), ?_⟩
    rintro r2 N3 ⟨rfl, rfl⟩
    refine ⟨zo_rng _, fun q3 => ⟨?_, thrM, fun i _ => by rw [s34]⟩, fun q3 => ?_⟩
    · have := zo_0 q3
      unfold vAhead; rw [Int.toNat_natCast, if_neg (fun z => by simp [z.2] at this)]
    · obtain ⟨p, hp, hpk⟩ := hN.2.place (h := k) (by omega)
      refine ⟨_, m_aheadOf hT1 hW s34 hN.2 hp hpk, ?_⟩
      rintro r4 N4 ⟨rfl, rfl⟩
      refine ⟨?_, thrM, fun i _ => by rw [s34]⟩
      unfold vAhead; rw [Int.toNat_natCast, if_pos ⟨q2, zo_ne q3⟩, ← hpk, plo_at hN.2 hp]
def vPressed (t : TT) (σ : Nat → Int) (x : Int) : Int := if 0 ≤ x ∧ x < tn t then prs t σ x.toNat else -1
theorem c_pressed {t : TT} {tb B : Nat} {M N : Mm} {x : Int} (hx : rng x) (h : Sim t tb B M N) : S_Main_pressed x M (PC tb M (vPressed t (N 34) x)) := by
  obtain ⟨hW, hT, hS, hN, -⟩ := h
  refine W_Main_pressed _ M ⟨_, c_isHouse hx hT.1 hT.2.1 hT.2.2.2.1 hW, ?_⟩
  rintro r M1 ⟨rfl, rfl⟩
  refine ⟨zo_rng _, fun q => ⟨?_, FrC.rf⟩, fun q => ⟨tb, hT.2.1, at_tb hT.1, ?_⟩⟩
  · have := zo_0 q
    unfold vPressed; rw [if_neg (by simpa using this)]
  · have q2 : 0 ≤ x ∧ x < tn t := by simpa using zo_ne q
    obtain ⟨k, rfl⟩ : ∃ k : Nat, x = (k : Int) := ⟨x.toNat, by omega⟩
    refine ⟨_, c_pressedOut (at_tb hT.1) atC_42 hT.2.2.2.1 hN.1 hN.2 hW.1 (by omega), ?_⟩
    rintro r2 M2 ⟨rfl, hf⟩
    refine ⟨?_, hf.wk (fun c hc => Or.inl hc)⟩
    unfold vPressed; rw [if_pos q2, Int.toNat_natCast]
theorem m_pressed {t : TT} {tb B : Nat} {M N : Mm} {x : Int} (hx : rng x) (h : Sim t tb B M N) : S_Mod_pressed x N (PN N (vPressed t (N 34) x)) := by
  obtain ⟨hW, hT, hS, hN, -⟩ := h
  refine W_Mod_pressed _ N ?_
  rintro N1 rfl
  have hT1 := hT.2.2.2.2.1.thr
  refine ⟨_, m_isHouse hx hT1 hW, ?_⟩
  rintro r N2 ⟨rfl, rfl⟩
  refine ⟨zo_rng _, fun q => ⟨?_, thrM, fun i _ => by rw [s34]⟩, fun q => ?_⟩
  · have := zo_0 q
    unfold vPressed; rw [if_neg (by simpa using this)]
  · have q2 : 0 ≤ x ∧ x < tn t := by simpa using zo_ne q
    obtain ⟨k, rfl⟩ : ∃ k : Nat, x = (k : Int) := ⟨x.toNat, by omega⟩
    refine ⟨_, m_pressedOf hT1 hW s34 hN.2 (by omega), ?_⟩
    rintro r2 N3 ⟨rfl, hf⟩
    refine ⟨?_, thrM.tr (hf.wk (fun c hc => by omega) (fun _ z => z.elim)), fun i _ => by rw [hf.1 34 (by omega) (by omega), s34]⟩
    unfold vPressed; rw [if_pos q2, Int.toNat_natCast]
theorem c_shunned {t : TT} {tb B : Nat} {M N : Mm} (h : Sim t tb B M N) : S_Main_shunned M (PC tb M (shN t (N 34))) := by
  obtain ⟨hW, hT, hS, hN, -⟩ := h
  refine W_Main_shunned M ⟨tb, hT.2.1, at_tb hT.1, _, c_shunnedBy atC_42 (at_tb hT.1) hT.2.2.2.1 hW hN.1 hN.2, ?_⟩
  rintro r M1 ⟨rfl, rfl⟩
  exact ⟨rfl, FrC.rf⟩
theorem m_shunned {t : TT} {tb B : Nat} {M N : Mm} (h : Sim t tb B M N) : S_Mod_shunned N (PN N (shN t (N 34))) := by
  obtain ⟨hW, hT, hS, hN, -⟩ := h
  refine W_Mod_shunned N ?_
  rintro N1 rfl
  refine ⟨_, m_shunnedNow hT.2.2.2.2.1.thr hW s34 hN.2, ?_⟩
  rintro r N2 ⟨rfl, rfl⟩
  exact ⟨rfl, thrM, fun i _ => by rw [s34]⟩
def vBlot (t : TT) (σ : Nat → Int) (x z : Int) : Int := if (0 ≤ x ∧ x < tn t) ∧ (0 ≤ z ∧ z < tn t) ∧ x ≠ z ∧ tkind t x.toNat ≠ 3 then prt t σ x.toNat z.toNat else -1
theorem c_blot {t : TT} {tb B : Nat} {M N : Mm} {x z : Int} (hx : rng x) (hz : rng z) (h : Sim t tb B M N) : S_Main_blot x z M (PC tb M (vBlot t (N 34) x z)) := by
  obtain ⟨hW, hT, hS, hN, -⟩ := h
  refine W_Main_blot _ _ M ⟨_, c_isHouse hx hT.1 hT.2.1 hT.2.2.2.1 hW, ?_⟩
  rintro r M1 ⟨rfl, rfl⟩
  refine ⟨zo_rng _, fun q => ⟨?_, FrC.rf⟩, fun q => ⟨_, c_isHouse hz hT.1 hT.2.1 hT.2.2.2.1 hW, ?_⟩⟩
  · have := zo_0 q
    unfold vBlot; rw [if_neg (fun w => by simp [w.1.1, w.1.2] at this)]
  · rintro r2 M2 ⟨rfl, rfl⟩
    have q1 : 0 ≤ x ∧ x < tn t := by simpa using zo_ne q
    refine ⟨zo_rng _, fun q2 => ⟨?_, FrC.rf⟩, fun q2 => ⟨hx, hz, fun q3 => ⟨?_, FrC.rf⟩, fun q3 => ⟨tb, hT.2.1, at_tb hT.1, ?_⟩⟩⟩
    · have := zo_0 q2
      unfold vBlot; rw [if_neg (fun w => by simp [w.2.1.1, w.2.1.2] at this)]
    · unfold vBlot; rw [if_neg (fun w => w.2.2.1 q3)]
    · have q4 : 0 ≤ z ∧ z < tn t := by simpa using zo_ne q2
      obtain ⟨k, rfl⟩ : ∃ k : Nat, x = (k : Int) := ⟨x.toNat, by omega⟩
      obtain ⟨j, rfl⟩ : ∃ j : Nat, z = (j : Int) := ⟨z.toNat, by omega⟩
      refine ⟨_, c_isCat (at_tb hT.1) hT.2.2.2.1 hW (by omega), ?_⟩
      rintro r3 M3 ⟨rfl, rfl⟩
      refine ⟨zo_rng _, fun q5 => ⟨tb, hT.2.1, at_tb hT.1, _, c_printedOn (at_tb hT.1) atC_42 hT.2.2.2.1 hW hN.1 hN.2 (by omega) (by omega), ?_⟩, fun q5 => ⟨?_, FrC.rf⟩⟩
      · rintro r4 M4 ⟨rfl, hf⟩
        have := zo_0 q5
        refine ⟨?_, hf.wk (fun c hc => Or.inr (Or.inl hc))⟩
        unfold vBlot; rw [Int.toNat_natCast, Int.toNat_natCast, if_pos ⟨q1, q4, q3, by simpa using this⟩]
      · have := zo_ne q5
        unfold vBlot; rw [Int.toNat_natCast, if_neg (fun w => w.2.2.2 (by simpa using this))]
theorem m_blot {t : TT} {tb B : Nat} {M N : Mm} {x z : Int} (hx : rng x) (hz : rng z) (h : Sim t tb B M N) : S_Mod_blot x z N (PN N (vBlot t (N 34) x z)) := by
  obtain ⟨hW, hT, hS, hN, -⟩ := h
  have hn := hW.1
  refine W_Mod_blot _ _ N ?_
  rintro N1 rfl
  have hT1 := hT.2.2.2.2.1.thr
  refine ⟨_, m_isHouse hx hT1 hW, ?_⟩
  rintro r N2 ⟨rfl, rfl⟩
  refine ⟨zo_rng _, fun q => ⟨?_, thrM, fun i _ => by rw [s34]⟩, fun q => ⟨_, m_isHouse hz hT1 hW, ?_⟩⟩
  · have := zo_0 q
    unfold vBlot; rw [if_neg (fun w => by simp [w.1.1, w.1.2] at this)]
  · rintro r2 N3 ⟨rfl, rfl⟩
    have q1 : 0 ≤ x ∧ x < tn t := by simpa using zo_ne q
    refine ⟨zo_rng _, fun q2 => ⟨?_, thrM, fun i _ => by rw [s34]⟩, fun q2 => ⟨hx, hz, fun q3 => ⟨?_, thrM, fun i _ => by rw [s34]⟩, fun q3 => ⟨by omega, ?_⟩⟩⟩
    · have := zo_0 q2
      unfold vBlot; rw [if_neg (fun w => by simp [w.2.1.1, w.2.1.2] at this)]
    · unfold vBlot; rw [if_neg (fun w => w.2.2.1 q3)]
    · have q4 : 0 ≤ z ∧ z < tn t := by simpa using zo_ne q2
      obtain ⟨k, rfl⟩ : ∃ k : Nat, x = (k : Int) := ⟨x.toNat, by omega⟩
      obtain ⟨j, rfl⟩ : ∃ j : Nat, z = (j : Int) := ⟨z.toNat, by omega⟩
      have hk := hW.2.1 k (by omega)
      rw [Int.toNat_natCast, (hT1.2.1 k (by omega)).1]
      refine ⟨by omega, fun q5 => ⟨?_, thrM, fun i _ => by rw [s34]⟩, fun q5 => ⟨_, m_printedBy hT1 hW s34 hN.2 (Or.inr q1) (by omega), ?_⟩⟩
      · unfold vBlot; rw [Int.toNat_natCast, if_neg (fun w => w.2.2.2 q5)]
      · rintro r4 N4 ⟨rfl, hf⟩
        refine ⟨?_, thrM.tr (hf.wk (fun c hc => by omega) (fun _ z => z.elim)), fun i _ => by rw [hf.1 34 (by omega) (by omega), s34]⟩
        unfold vBlot prb; rw [Int.toNat_natCast, Int.toNat_natCast, if_neg (by omega), if_pos ⟨q1, q4, q3, q5⟩]
