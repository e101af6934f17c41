theorem Op.chg {C D : Mm → (Int → Mm → Prop) → Prop} {t : TT} {tb B nx d : Nat} {M N : Mm} {r : Int} {σ : Nat → Int} (h : Sim t tb B M N) (hnx : nx < 16) (h1 : M 1 10 = (nx : Int)) (h2 : M 1 11 = (d : Int)) (hw : WF (tn t) (B + 1) σ)
    (hc : C M (fun x M' => x = r ∧ ∃ M1, RemC nx d M M1 ∧ RS (tn t) σ M' 42 ∧ FrC (fun c => scC tb c ∨ inS 42 c) M1 M'))
    (hd : D N (fun x N' => x = r ∧ ∃ N1, KeepM d (upr N 1 (up1 (N 1) 0 0)) N1 ∧ (∀ i, i < 33 → N' 34 i = σ i) ∧ FrM scM scQ N1 N')) : Op C D B M N := by
  refine ⟨r, _, _, hc, hd, ?_⟩
  rintro M' N' ⟨M1, hR, hS4, hf4⟩ ⟨N1, hKp, hS5, hf5⟩
  have hn := h.1.1
  exact ⟨t, tb, ((h.thr.rem hnx h1 h2 hR hKp).now (Nat.le_succ _) hf4 hf5 ⟨hS4.cg hn hS5, hw.cg hn hS5⟩)⟩
theorem rod_ok {n B k : Nat} {σ : Nat → Int} (hw : WF n B σ) (hn : n ≤ 7) (hk : k < n) : WF n B (up1 σ 4 (xorI (σ 4) (shlI 1 (k : Int)))) := by
  obtain ⟨h1, h2, h3⟩ := hw.2.2.2.1
  obtain ⟨a, ha⟩ : ∃ a : Nat, σ 4 = (a : Int) := ⟨(σ 4).toNat, by omega⟩
  have hp : 2 ^ k ≤ 2 ^ 6 := Nat.pow_le_pow_right (by omega) (by omega)
  have e1 : shlI 1 (k : Int) = ((2 ^ k : Nat) : Int) := by
    have := shlI_nat (a := 1) (k := k) (by omega) (by rw [Nat.one_mul]; omega)
    rwa [Nat.one_mul] at this
  have e2 : xorI (σ 4) (shlI 1 (k : Int)) = ((a ^^^ 2 ^ k : Nat) : Int) := by
    rw [e1, ha, xorI_nat (by omega) (by omega)]
  rw [e2]
  have hx : a ^^^ 2 ^ k < 2 ^ 7 := Nat.xor_lt_two_pow (by omega) (by omega)
  refine hw.rod hn ⟨by omega, by omega, fun i hi => ?_⟩
  rw [Int.toNat_natCast, Nat.testBit_xor, Nat.testBit_two_pow] at hi
  by_cases e : k = i
  · omega
  · refine h3 i ?_
    rw [ha, Int.toNat_natCast]
    simpa [e] using hi
theorem op_road {t : TT} {tb B : Nat} {M N : Mm} {x : Int} (hx : rng x) (h0 : Sim t tb B M N) : Op (S_Main_road x) (S_Mod_road x) B M N := by
  have h := h0
  obtain ⟨hW, hT, hS, hN, hP, hY, hH, hU, hM⟩ := h
  have hn := hW.1
  have hT1 := hT.2.2.2.2.1.thr
  by_cases q : 0 ≤ x ∧ x < tn t
  · obtain ⟨k, rfl⟩ : ∃ k : Nat, x = (k : Int) := ⟨x.toNat, by omega⟩
    obtain ⟨nx, d, u1, u2, u3, u4, u5, -⟩ := id hU
    refine Op.chg (r := 1) h0 u4 u1 u2 ((rod_ok hN.2 hn (k := k) (by omega)).mono (Nat.le_succ _)) ?_ ?_
    · refine W_Main_road _ M ⟨_, c_isHouse hx hT.1 hT.2.1 hT.2.2.2.1 hW, ?_⟩
      rintro r M1 ⟨rfl, rfl⟩
      refine ⟨zo_rng _, fun _ => ⟨_, c_remember u1 u2 u4 u5, ?_⟩, fun q2 => by simp [q] at q2⟩
      intro M3 hR
      have hS3 := hN.1.fr (M' := M3) (fun i hi => hR.2.2.2.2 _ (by omega))
      refine ⟨fun M' => M' = upr M3 42 (up1 (M3 42) 4 (xorI (M3 42 4) (shlI 1 (k : Int)))), W_State_turnRoad 42 atC_42 _ M3 (fun _ e => e), ?_⟩
      rintro M4 rfl
      refine ⟨rfl, M3, hR, ?_, FrC.up (Or.inr (by omega))⟩
      have := hS3.rod (xorI (N 34 4) (shlI 1 (k : Int)))
      rw [hS3.1.2.2.2.2]
      exact this
    · refine W_Mod_road _ N ?_
      rintro N1 rfl
      refine ⟨_, m_isHouse hx hT1 hW, ?_⟩
      rintro r N2 ⟨rfl, rfl⟩
      refine ⟨zo_rng _, fun _ => ⟨_, m_keeps (d := d) (by rw [upr_eq, if_pos rfl, up1_eq, if_neg (by omega)]; exact u3) u5, ?_⟩, fun q2 => by simp [q] at q2⟩
      intro N4 hKp
      rintro N5 rfl
      refine ⟨rfl, N4, hKp, fun i _ => ?_, FrM.up (Or.inr (Or.inl rfl)) (by omega)⟩
      rw [upr_eq, if_pos rfl, hKp.2.2.1 34 (by omega) (by omega), s34]
  · refine Op.ask (v := 0) h0 ?_ ?_
    · refine W_Main_road _ M ⟨_, c_isHouse hx hT.1 hT.2.1 hT.2.2.2.1 hW, ?_⟩
      rintro r M1 ⟨rfl, rfl⟩
      exact ⟨zo_rng _, fun q2 => absurd (by simpa using zo_ne q2) q, fun _ => ⟨rfl, FrC.rf⟩⟩
    · refine W_Mod_road _ N ?_
      rintro N1 rfl
      refine ⟨_, m_isHouse hx hT1 hW, ?_⟩
      rintro r N2 ⟨rfl, rfl⟩
      exact ⟨zo_rng _, fun q2 => absurd (by simpa using zo_ne q2) q, fun _ => ⟨rfl, thrM, fun i _ => by rw [s34]⟩⟩
theorem op_run {t : TT} {tb B : Nat} {M N : Mm} (hB : B < 100000) (h0 : Sim t tb B M N) : Op S_Main_run S_Mod_run B M N := by
  have h := h0
  obtain ⟨hW, hT, hS, hN, hP, hY, hH, hU, hM⟩ := h
  have hn := hW.1
  have hT1 := hT.2.2.2.2.1.thr
  have htb := hT.1
  obtain ⟨nx, d, u1, u2, u3, u4, u5, -⟩ := id hU
  refine Op.chg (r := cameR t (N 34)) h0 u4 u1 u2 (runS_WF hW hN.2) ?_ ?_
  · refine W_Main_run M ⟨_, c_remember u1 u2 u4 u5, ?_⟩
    intro M3 hR
    refine ⟨tb, by rw [hR.2.2.2.1 1 (by omega) (by omega)]; exact hT.2.1, at_tb hT.1, _, c_drawThrough atC_61 (at_tb hT.1) atC_42 (hT.2.2.2.1.fr (fun i _ _ => hR.2.2.2.2 _ (by omega))) hW (hN.1.fr (fun i hi => hR.2.2.2.2 _ (by omega))) hN.2 (by omega), ?_⟩
    rintro M4 ⟨g1, g2, g3, g4, g5⟩
    exact ⟨g3, M3, hR, g1, g5.wk (fun c hc => by omega)⟩
  · refine W_Mod_run N ?_
    rintro N1 rfl
    refine ⟨_, m_keeps (d := d) (by rw [upr_eq, if_pos rfl, up1_eq, if_neg (by omega)]; exact u3) u5, ?_⟩
    intro N4 hKp
    refine ⟨_, m_runs (hT1.frM hKp.2.2 (by omega) (fun c _ _ => by omega)) hW (by rw [hKp.2.2.1 34 (by omega) (by omega), s34]) hN.2 (by omega), ?_⟩
    rintro r N5 ⟨g1, g2, g3, g4⟩
    exact ⟨g1, N4, hKp, fun i _ => by rw [g2], g4.wk (fun c hc => by omega) (fun k hk => by omega)⟩
def slS (σ : Nat → Int) (x p : Int) : Nat → Int := up1 (up1 σ 2 (σ 2 - x)) 3 (σ 3 + x * p)
theorem slS_WF {n B : Nat} {σ : Nat → Int} {x p : Int} (hw : WF n B σ) (hn : n ≤ 7) (h0 : 0 ≤ x) (h1 : x ≤ σ 2) : WF n B (slS σ x p) := by
  have := hw.2.2.1
  exact (hw.pts hn ⟨by omega, by omega⟩).cns hn trivial
theorem c_sellPints {n B : Nat} {σ : Nat → Int} {M : Mm} {b : Nat} {x p : Int} (hb : At shC NN b (.inl 5)) (hS : RS n σ M b) (hw : WF n B σ) (hx : rng x) :
    S_State_sellPints b x p M (fun r M' => r = zo (decide (x ≤ σ 2)) ∧ RS n (if x ≤ σ 2 then slS σ x p else σ) M' b ∧ FrC (fun c => c = b) M M') := by
  have := hw.2.2.1
  refine W_State_sellPints b hb _ _ M ?_
  rw [hS.1.2.2.1]
  refine ⟨hx, by omega, fun q => ?_, fun q => ⟨by rw [decide_eq_false q]; rfl, by rw [if_neg q]; exact hS, FrC.rf⟩⟩
  rintro M1 rfl M2 rfl
  have h1 := hS.pts (σ 2 - x)
  have h2 := h1.cns (up1 σ 2 (σ 2 - x) 3 + x * p)
  rw [← h1.1.2.2.2.1] at h2
  refine ⟨by rw [decide_eq_true q]; rfl, ?_, FrC.tr (FrC.up (p := fun c => c = b) rfl) (FrC.up (p := fun c => c = b) rfl)⟩
  rw [if_pos q]
  rw [h1.1.2.2.2.1] at h2 ⊢
  exact h2
theorem m_sells {t : TT} {N : Mm} {σ : Nat → Int} {x : Int} (hT : RM t N) (hS : N 34 = σ) : S_Mod_sells x N (fun N' => N' = upr N 34 (slS σ x (tprice t))) := by
  refine W_Mod_sells _ N ?_
  rintro N1 rfl N2 rfl
  have e1 : (upr N 34 (up1 (N 34) 2 (N 34 2 - x))) 3 2 = tprice t := by rw [upr_eq, if_neg (by omega)]; exact hT.1.2.1
  rw [e1]
  subst hS
  funext c
  simp only [upr_eq]
  by_cases e : c = 34
  · simp only [if_pos e]; rfl
  · simp only [if_neg e]
theorem op_sell {t : TT} {tb B : Nat} {M N : Mm} {x : Int} (hx : rng x) (h0 : Sim t tb B M N) : Op (S_Main_sell x) (S_Mod_sell x) B M N := by
  have h := h0
  obtain ⟨hW, hT, hS, hN, hP, hY, hH, hU, hM⟩ := h
  have hn := hW.1
  have hT1 := hT.2.2.2.2.1.thr
  have htb := hT.1
  have hp := hN.2.2.2.1
  have e2 := hN.1.1.2.2.1
  by_cases q : (1 ≤ x ∧ x ≤ 99) ∧ x ≤ N 34 2
  · obtain ⟨nx, d, u1, u2, u3, u4, u5, -⟩ := id hU
    refine Op.chg (r := slS (N 34) x (tprice t) 3) h0 u4 u1 u2 ((slS_WF (p := tprice t) hN.2 hn (by omega) q.2).mono (Nat.le_succ _)) ?_ ?_
    · refine W_Main_sell _ M ⟨hx, fun z => by omega, fun _ => ⟨hx, fun z => by omega, fun _ => ?_⟩⟩
      rw [e2]
      refine ⟨hx, by omega, fun _ => ⟨_, c_remember u1 u2 u4 u5, ?_⟩, fun z => absurd q.2 z⟩
      intro M3 hR
      refine ⟨tb, by rw [hR.2.2.2.1 1 (by omega) (by omega)]; exact hT.2.1, at_tb hT.1, _, c_sellPints atC_42 (hN.1.fr (fun i hi => hR.2.2.2.2 _ (by omega))) hN.2 hx, ?_⟩
      rintro r M4 ⟨g1, g2, g3⟩
      rw [if_pos q.2] at g2
      rw [hR.2.2.2.2 tb (by omega), hT.2.2.2.1.1.2.1] at g2
      exact ⟨g2.1.2.2.2.1, M3, hR, g2, g3.wk (fun c hc => by omega)⟩
    · refine W_Mod_sell _ N ?_
      rintro N1 rfl
      refine ⟨_, m_within hx (by omega) (by omega), ?_⟩
      rintro r N2 ⟨rfl, rfl⟩
      rw [s34]
      refine ⟨zo_rng _, fun q2 => by simp [q.1] at q2, fun _ => ⟨by omega, hx, fun _ => ⟨_, m_keeps (d := d) (by rw [upr_eq, if_pos rfl, up1_eq, if_neg (by omega)]; exact u3) u5, ?_⟩, fun z => absurd q.2 z⟩⟩
      intro N4 hKp
      refine ⟨_, m_sells (σ := N 34) (hT1.frM hKp.2.2 (by omega) (fun c _ _ => by omega)) (by rw [hKp.2.2.1 34 (by omega) (by omega), s34]), ?_⟩
      rintro N5 rfl
      exact ⟨by rw [upr_eq, if_pos rfl], N4, hKp, fun i _ => by rw [upr_eq, if_pos rfl], FrM.up (Or.inr (Or.inl rfl)) (by omega)⟩
  · refine Op.ask (v := -1) h0 ?_ ?_
    · refine W_Main_sell _ M ⟨hx, fun _ => ⟨rfl, FrC.rf⟩, fun _ => ⟨hx, fun _ => ⟨rfl, FrC.rf⟩, fun _ => ?_⟩⟩
      rw [e2]
      exact ⟨hx, by omega, fun z => by omega, fun _ => ⟨rfl, FrC.rf⟩⟩
    · refine W_Mod_sell _ N ?_
      rintro N1 rfl
      refine ⟨_, m_within hx (by omega) (by omega), ?_⟩
      rintro r N2 ⟨rfl, rfl⟩
      rw [s34]
      refine ⟨zo_rng _, fun _ => ⟨rfl, thrM, fun i _ => by rw [s34]⟩, fun q1 => ⟨by omega, hx, fun z => ?_, fun _ => ⟨rfl, thrM, fun i _ => by rw [s34]⟩⟩⟩
      have : 1 ≤ x ∧ x ≤ 99 := by simpa using zo_ne q1
      exact absurd ⟨this, z⟩ q
theorem op_undo {t : TT} {tb B : Nat} {M N : Mm} (h0 : Sim t tb B M N) : Op S_Main_undo S_Mod_undo B M N := by
  have h := h0
  obtain ⟨hW, hT, hS, hN, hP, hY, hH, hU, hM⟩ := h
  have hn := hW.1
  have htb := hT.1
  obtain ⟨nx, d, u1, u2, u3, u4, u5, u6⟩ := id hU
  have e50 : (upr N 1 (up1 (N 1) 0 0)) 1 50 = (d : Int) := by rw [upr_eq, if_pos rfl, up1_eq, if_neg (by omega)]; exact u3
  by_cases q : d = 0
  · refine Op.ask (v := 0) h0 ?_ ?_
    · refine W_Main_undo M ?_
      rw [u2]
      exact ⟨by omega, fun z => by omega, fun _ => ⟨rfl, FrC.rf⟩⟩
    · refine W_Mod_undo N ?_
      rintro N1 rfl
      rw [e50]
      exact ⟨by omega, fun z => by omega, fun _ => ⟨rfl, thrM, fun i _ => by rw [s34]⟩⟩
  · obtain ⟨g1, g2⟩ := u6 (d - 1) (by omega)
    have ex : (nx + 16 - d + (d - 1)) % 16 = (nx + 15) % 16 := by omega
    rw [ex] at g1
    refine ⟨1, fun M' => RS (tn t) (fun j => N 37 (33 * (d - 1) + j)) M' 42 ∧ M' 1 10 = (((nx + 15) % 16 : Nat) : Int) ∧ M' 1 11 = ((d - 1 : Nat) : Int) ∧ (∀ k, k ≠ 10 → k ≠ 11 → M' 1 k = M 1 k) ∧ FrC (fun c => c = 1 ∨ inS 42 c) M M',
      fun N' => N' 1 50 = ((d - 1 : Nat) : Int) ∧ (∀ j, j < 33 → N' 34 j = N 37 (33 * (d - 1) + j)) ∧ FrM (fun c => c = 34) (fun k => k = 0 ∨ k = 50) N N', ?_, ?_, ?_⟩
    · refine W_Main_undo M ?_
      rw [u2]
      refine ⟨by omega, fun _ => ?_, fun z => by omega⟩
      rintro M1 rfl M2 rfl
      have er : remI ((nx : Int) + 16 - 1) 16 = (((nx + 15) % 16 : Nat) : Int) := by
        rw [show (nx : Int) + 16 - 1 = ((nx + 15 : Nat) : Int) by omega]
        exact remI_pos (d := 16) (by omega) (by omega) (by omega)
      have e10 : (upr M 1 (up1 (M 1) 11 ((d : Int) - 1))) 1 10 = (nx : Int) := by rw [upr_eq, if_pos rfl, up1_eq, if_neg (by omega)]; exact u1
      rw [e10, er]
      have ea : ∀ v : Int, (upr (upr M 1 (up1 (M 1) 11 ((d : Int) - 1))) 1 (up1 ((upr M 1 (up1 (M 1) 11 ((d : Int) - 1))) 1) 10 v)) 1 10 = v := fun v => by rw [upr_eq, if_pos rfl, up1_eq, if_pos rfl]
      rw [ea, Int.toNat_natCast]
      have hm := Nat.mod_lt (nx + 15) (show 0 < 16 by omega)
      have hat : At shC NN (121 + 5 * ((nx + 15) % 16)) (.inl 5) := by
        have := ata5 (x := (((nx + 15) % 16 : Nat) : Int)) ⟨by omega, by omega⟩; rwa [Int.toNat_natCast] at this
      refine ⟨⟨by omega, by omega⟩, _, c_copyFrom atC_42 hat (by omega), ?_⟩
      rintro M3 ⟨hR, hf⟩
      have k1 : M3 1 = _ := hf 1 (by omega)
      refine ⟨rfl, hR _ _ hn (g1.fr (fun i hi => by rw [upr_eq, if_neg (by omega), upr_eq, if_neg (by omega)])), by rw [k1]; exact ea _, ?_, ?_, ?_⟩
      · rw [k1, upr_eq, if_pos rfl, up1_eq, if_neg (by omega), upr_eq, if_pos rfl, up1_eq, if_pos rfl]; omega
      · intro k h10 h11
        rw [k1, upr_eq, if_pos rfl, up1_eq, if_neg h10, upr_eq, if_pos rfl, up1_eq, if_neg h11]
      · exact ((FrC.up (Or.inl rfl)).tr (FrC.up (Or.inl rfl))).tr (hf.wk (fun c hc => Or.inr hc))
    · refine W_Mod_undo N ?_
      rintro N1 rfl
      rw [e50]
      refine ⟨by omega, fun _ => ?_, fun z => by omega⟩
      rintro N2 rfl
      have e5 : ∀ G : Mm, (upr G 1 (up1 (G 1) 50 ((d : Int) - 1))) 1 50 = (d : Int) - 1 := fun G => by rw [upr_eq, if_pos rfl, up1_eq, if_pos rfl]
      rw [e5]
      rw [show (33 : Int) * ((d : Int) - 1) = ((33 * (d - 1) : Nat) : Int) by omega]
      refine ⟨_, m_copies (c := 0) atM_37 atM_34 (by omega) (by omega) (by omega) (by omega) (by omega), ?_⟩
      rintro N3 rfl
      refine ⟨rfl, ?_, fun j hj => ?_, ((FrM.u1 (Or.inl rfl)).tr (FrM.u1 (Or.inr rfl))).tr (FrM.up rfl (by omega))⟩
      · rw [upr_eq, if_neg (by omega), e5]; omega
      · rw [upr_eq, if_pos rfl, if_pos (by omega), upr_eq, if_neg (by omega), upr_eq, if_neg (by omega), Nat.sub_zero]
    · rintro M' N' ⟨a1, a2, a3, a4, a5⟩ ⟨b1, b2, b3⟩
      refine ⟨t, tb, Sim.mono (B := B) ⟨hW, hT.fr (a4 1 (by omega) (by omega)) (a4 2 (by omega) (by omega)) (fun c _ _ _ _ => a5 _ (by omega)) (fun c _ _ => b3.1 c (by omega) (by omega)), hS.fr (fun c _ _ => a5 c (by omega)) (fun c _ => b3.1 c (by omega) (by omega)), ⟨a1.cg hn b2, g2.cg hn b2⟩, hP.fr (by rw [a5 2 (by omega)]) (a5 3 (by omega)) (b3.2 1 (by omega)) (b3.1 2 (by omega) (by omega)), hY.fr (fun i hi => a5 _ (by omega)) (fun c _ _ => b3.1 c (by omega) (by omega)), hH.fr (a5 41 (by omega)) (a5 51 (by omega)) (a5 52 (by omega)) (fun c _ _ => b3.1 c (by omega) (by omega)), ?_, hM.fr (Nat.le_refl _) (a5 59 (by omega)) (fun c _ _ => a5 c (by omega)) (fun c _ _ => b3.1 c (by omega) (by omega)) (b3.1 36 (by omega) (by omega)) (b3.1 38 (by omega) (by omega))⟩ (Nat.le_succ _)⟩
      refine ⟨(nx + 15) % 16, d - 1, a2, a3, b1, Nat.mod_lt _ (by omega), by omega, fun i hi => ?_⟩
      obtain ⟨v1, v2⟩ := u6 i (by omega)
      have e : ((nx + 15) % 16 + 16 - (d - 1) + i) % 16 = (nx + 16 - d + i) % 16 := by omega
      have hm := Nat.mod_lt (nx + 16 - d + i) (show 0 < 16 by omega)
      rw [e, b3.1 37 (by omega) (by omega)]
      exact ⟨v1.frC a5 (fun q hq => by omega), v2⟩
