theorem Sim.mono {t : TT} {tb B B' : Nat} {M N : Mm} (h : Sim t tb B M N) (hB : B ≤ B') : Sim t tb B' M N := by
  obtain ⟨hW, hT, hS, hN, hP, hY, hH, hU, hM⟩ := h
  exact ⟨hW, hT, hS, ⟨hN.1, hN.2.mono hB⟩, hP, hY, hH, hU.fr hB rfl rfl (fun _ _ _ => rfl) rfl rfl, hM.fr hB rfl (fun _ _ _ => rfl) (fun _ _ _ => rfl) rfl rfl⟩
/-- one call on both sides: the same answer, and Sim behind it -/
def Op (C D : Mm → (Int → Mm → Prop) → Prop) (B : Nat) (M N : Mm) : Prop := ∃ (r : Int) (A A' : Mm → Prop), C M (fun x M' => x = r ∧ A M') ∧ D N (fun x N' => x = r ∧ A' N') ∧ ∀ M' N', A M' → A' N' → ∃ t tb, Sim t tb (B + 1) M' N'
theorem Op.ask {C D : Mm → (Int → Mm → Prop) → Prop} {t : TT} {tb B : Nat} {M N : Mm} {v : Int} (h : Sim t tb B M N) (hc : C M (PC tb M v)) (hd : D N (PN N v)) : Op C D B M N :=
  ⟨v, fun M' => FrC (scC tb) M M', fun N' => FrM scM scQ N N' ∧ ∀ i, i < 33 → N' 34 i = N 34 i, hc, hd, fun M' N' a b => ⟨t, tb, (h.ask a b.1 b.2).mono (Nat.le_succ _)⟩⟩
theorem op_order {t : TT} {tb B : Nat} {M N : Mm} {x : Int} (hx : rng x) (h : Sim t tb B M N) : Op (S_Main_order x) (S_Mod_order x) B M N := Op.ask h (c_order hx h) (m_order hx h)
theorem op_ahead {t : TT} {tb B : Nat} {M N : Mm} {x : Int} (hx : rng x) (h : Sim t tb B M N) : Op (S_Main_ahead x) (S_Mod_ahead x) B M N := Op.ask h (c_ahead hx h) (m_ahead hx h)
theorem op_pressed {t : TT} {tb B : Nat} {M N : Mm} {x : Int} (hx : rng x) (h : Sim t tb B M N) : Op (S_Main_pressed x) (S_Mod_pressed x) B M N := Op.ask h (c_pressed hx h) (m_pressed hx h)
theorem op_blot {t : TT} {tb B : Nat} {M N : Mm} {x z : Int} (hx : rng x) (hz : rng z) (h : Sim t tb B M N) : Op (S_Main_blot x z) (S_Mod_blot x z) B M N := Op.ask h (c_blot hx hz h) (m_blot hx hz h)
theorem op_shunned {t : TT} {tb B : Nat} {M N : Mm} (h : Sim t tb B M N) : Op S_Main_shunned S_Mod_shunned B M N := Op.ask h (c_shunned h) (m_shunned h)
abbrev RemC (nx d : Nat) (M M' : Mm) : Prop := (∀ n σ, n ≤ 7 → RS n σ M 42 → RS n σ M' (121 + 5 * nx)) ∧ M' 1 10 = (((nx + 1) % 16 : Nat) : Int) ∧ M' 1 11 = ((min (d + 1) 16 : Nat) : Int) ∧ (∀ k, k ≠ 10 → k ≠ 11 → M' 1 k = M 1 k) ∧ FrC (fun c => c = 1 ∨ inS (121 + 5 * nx) c) M M'
abbrev KeepM (d : Nat) (N N' : Mm) : Prop := N' 1 50 = ((min (d + 1) 16 : Nat) : Int) ∧ (∀ j, j < 528 → N' 37 j = if 33 * min d 15 ≤ j ∧ j < 33 * min d 15 + 33 then N 34 (j - 33 * min d 15) else if d = 16 then N 37 (j + 33) else N 37 j) ∧ FrM (fun c => c = 37) (fun k => k = 50) N N'
theorem Sim.rem {t : TT} {tb B : Nat} {M N M1 N1 : Mm} {nx d : Nat} (h : Sim t tb B M N) (hnx : nx < 16) (h1 : M 1 10 = (nx : Int)) (h2 : M 1 11 = (d : Int)) (a : RemC nx d M M1) (b : KeepM d N N1) : Sim t tb B M1 N1 := by
  obtain ⟨hW, hT, hS, hN, hP, hY, hH, hU, hM⟩ := h
  obtain ⟨a1, a2, a3, a4, a5⟩ := a
  obtain ⟨b1, b2, b3⟩ := b
  have htb := hT.1
  have hn := hW.1
  refine ⟨hW, hT.fr (a4 1 (by omega) (by omega)) (a4 2 (by omega) (by omega)) (fun c _ _ _ _ => a5 _ (by omega)) (fun c _ _ => b3.1 c (by omega) (by omega)), hS.fr (fun c _ _ => a5 c (by omega)) (fun c _ => b3.1 c (by omega) (by omega)), ?_, hP.fr (by rw [a5 2 (by omega)]) (a5 3 (by omega)) (b3.2 1 (by omega)) (b3.1 2 (by omega) (by omega)), hY.fr (fun i hi => a5 _ (by omega)) (fun c _ _ => b3.1 c (by omega) (by omega)), hH.fr (a5 41 (by omega)) (a5 51 (by omega)) (a5 52 (by omega)) (fun c _ _ => b3.1 c (by omega) (by omega)), hU.rem hn hN h1 h2 a1 a2 a3 a5 b1 b2, hM.fr (Nat.le_refl _) (a5 59 (by omega)) (fun c _ _ => a5 c (by omega)) (fun c _ _ => b3.1 c (by omega) (by omega)) (b3.1 36 (by omega) (by omega)) (b3.1 38 (by omega) (by omega))⟩
  unfold SimN
  rw [b3.1 34 (by omega) (by omega)]
  exact ⟨hN.1.fr (fun i hi => a5 _ (by omega)), hN.2⟩
theorem Sim.now {t : TT} {tb B B' : Nat} {M N M' N' : Mm} (h : Sim t tb B M N) (hB : B ≤ B') (e : FrC (fun c => scC tb c ∨ inS 42 c) M M') (f : FrM scM scQ N N') (hn : SimN (tn t) B' M' N') : Sim t tb B' M' N' := by
  obtain ⟨hW, hT, hS, hN, hP, hY, hH, hU, hM⟩ := h
  have htb := hT.1
  have e1 : M' 1 = M 1 := e 1 (by omega)
  have e2 : M' 2 = M 2 := e 2 (by omega)
  exact ⟨hW, hT.fr (by rw [e1]) (by rw [e1]) (fun c h1 h2 h3 h4 => e _ (by omega)) (fun c h1 h2 => f.1 c (by omega) (by omega)), hS.fr (fun c h1 h2 => e c (by omega)) (fun c h1 => f.1 c (by omega) (by omega)), hn, hP.fr (by rw [e2]) (e 3 (by omega)) (f.2 1 (by omega)) (f.1 2 (by omega) (by omega)), hY.fr (fun i hi => e _ (by omega)) (fun c h1 h2 => f.1 c (by omega) (by omega)), hH.fr (e 41 (by omega)) (e 51 (by omega)) (e 52 (by omega)) (fun c h1 h2 => f.1 c (by omega) (by omega)), hU.fr hB (by rw [e1]) (by rw [e1]) (fun c h1 h2 => e c (by omega)) (f.2 50 (by omega)) (f.1 37 (by omega) (by omega)), hM.fr hB (e 59 (by omega)) (fun c h1 h2 => e c (by omega)) (fun c h1 h2 => f.1 c (by omega) (by omega)) (f.1 36 (by omega) (by omega)) (f.1 38 (by omega) (by omega))⟩
theorem Sim.thr {t : TT} {tb B : Nat} {M N : Mm} (h : Sim t tb B M N) : Sim t tb B M (upr N 1 (up1 (N 1) 0 0)) := h.ask FrC.rf thrM (fun i _ => by rw [s34])
theorem op_put {t : TT} {tb B : Nat} {M N : Mm} {x z : Int} (hx : rng x) (hz : rng z) (h0 : Sim t tb B M N) : Op (S_Main_put x z) (S_Mod_put x z) B M N := by
  have h := h0
  obtain ⟨hW, hT, hS, hN, hP, hY, hH, hU, hM⟩ := h
  have hn := hW.1
  have hT1 := hT.2.2.2.2.1.thr
  by_cases q : (0 ≤ x ∧ x < tn t) ∧ (0 ≤ z ∧ z < tn t)
  · obtain ⟨k, rfl⟩ : ∃ k : Nat, x = (k : Int) := ⟨x.toNat, by omega⟩
    obtain ⟨j, rfl⟩ : ∃ j : Nat, z = (j : Int) := ⟨z.toNat, by omega⟩
    obtain ⟨f, hf, hfk⟩ := hN.2.place (h := k) (by omega)
    obtain ⟨nx, d, u1, u2, u3, u4, u5, -⟩ := id hU
    refine ⟨1, fun M' => ∃ M1, RemC nx d M M1 ∧ RS (tn t) (mv (N 34) f j) M' 42 ∧ FrC (fun c => c = 46) M1 M', fun N' => ∃ N1, KeepM d (upr N 1 (up1 (N 1) 0 0)) N1 ∧ N' 34 = mv (N 34) f j ∧ FrM (fun c => c = 34) (fun _ => False) N1 N', ?_, ?_, ?_⟩
    · refine W_Main_put _ _ M ⟨_, c_isHouse hx hT.1 hT.2.1 hT.2.2.2.1 hW, ?_⟩
      rintro r M1 ⟨rfl, rfl⟩
      refine ⟨zo_rng _, fun q2 => by simp [q.1] at q2, fun _ => ⟨_, c_isHouse hz hT.1 hT.2.1 hT.2.2.2.1 hW, ?_⟩⟩
      rintro r M2 ⟨rfl, rfl⟩
      refine ⟨zo_rng _, fun _ => ⟨_, c_remember u1 u2 u4 u5, ?_⟩, fun q2 => by simp [q.2] at q2⟩
      intro M3 hR
      have e3 : M3 tb = M2 tb := hR.2.2.2.2 tb (by have := hT.1; omega)
      refine ⟨tb, by rw [hR.2.2.2.1 1 (by omega) (by omega)]; exact hT.2.1, at_tb hT.1, ?_⟩
      rw [e3, hT.2.2.2.1.1.1]
      refine ⟨_, c_moveTo atC_42 (hN.1.fr (fun i hi => hR.2.2.2.2 _ (by omega))) hN.2 hn hf hfk (by omega), ?_⟩
      rintro r M4 ⟨rfl, hS4, hf4⟩
      exact ⟨Or.inr rfl, rfl, M3, hR, hS4, hf4⟩
    · refine W_Mod_put _ _ N ?_
      rintro N1 rfl
      refine ⟨_, m_isHouse hx hT1 hW, ?_⟩
      rintro r N2 ⟨rfl, rfl⟩
      refine ⟨zo_rng _, fun q2 => by simp [q.1] at q2, fun _ => ⟨_, m_isHouse hz hT1 hW, ?_⟩⟩
      rintro r N3 ⟨rfl, rfl⟩
      refine ⟨zo_rng _, fun _ => ⟨_, m_keeps (d := d) (by rw [upr_eq, if_pos rfl, up1_eq, if_neg (by omega)]; exact u3) u5, ?_⟩, fun q2 => by simp [q.2] at q2⟩
      intro N4 hKp
      refine ⟨_, m_laysAt (hT1.frM hKp.2.2 (by omega) (fun c _ _ => by omega)) hW (by rw [hKp.2.2.1 34 (by omega) (by omega), s34]) hN.2 hf hfk (by omega), ?_⟩
      rintro N5 ⟨hS5, hf5⟩
      exact ⟨rfl, N4, hKp, hS5, hf5⟩
    · rintro M' N' ⟨M1, hR, hS4, hf4⟩ ⟨N1, hKp, hS5, hf5⟩
      refine ⟨t, tb, ((h0.thr.rem u4 u1 u2 hR hKp).now (Nat.le_refl _) (hf4.wk (fun c hc => by omega)) (hf5.wk (fun c hc => by omega) (fun _ z => z.elim)) ?_).mono (Nat.le_succ _)⟩
      unfold SimN
      rw [hS5]
      exact ⟨hS4, mv_WF hN.2 hn hf (by omega)⟩
  · refine Op.ask (v := 0) h0 ?_ ?_
    · refine W_Main_put _ _ M ⟨_, c_isHouse hx hT.1 hT.2.1 hT.2.2.2.1 hW, ?_⟩
      rintro r M1 ⟨rfl, rfl⟩
      refine ⟨zo_rng _, fun q2 => ⟨rfl, FrC.rf⟩, fun q1 => ⟨_, c_isHouse hz hT.1 hT.2.1 hT.2.2.2.1 hW, ?_⟩⟩
      rintro r M2 ⟨rfl, rfl⟩
      have q3 : 0 ≤ x ∧ x < tn t := by simpa using zo_ne q1
      refine ⟨zo_rng _, fun q2 => ?_, fun q2 => ⟨rfl, FrC.rf⟩⟩
      have q4 : 0 ≤ z ∧ z < tn t := by simpa using zo_ne q2
      exact absurd ⟨q3, q4⟩ q
    · refine W_Mod_put _ _ N ?_
      rintro N1 rfl
      refine ⟨_, m_isHouse hx hT1 hW, ?_⟩
      rintro r N2 ⟨rfl, rfl⟩
      refine ⟨zo_rng _, fun q2 => ⟨rfl, thrM, fun i _ => by rw [s34]⟩, fun q1 => ⟨_, m_isHouse hz hT1 hW, ?_⟩⟩
      rintro r N3 ⟨rfl, rfl⟩
      have q3 : 0 ≤ x ∧ x < tn t := by simpa using zo_ne q1
      refine ⟨zo_rng _, fun q2 => ?_, fun q2 => ⟨rfl, thrM, fun i _ => by rw [s34]⟩⟩
      have q4 : 0 ≤ z ∧ z < tn t := by simpa using zo_ne q2
      exact absurd ⟨q3, q4⟩ q
