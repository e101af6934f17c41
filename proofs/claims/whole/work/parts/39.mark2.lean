theorem at_mk {i : Nat} (h : i < 4) : At shC NN (73 + 12 * i) (.inl 4) ∧ At shC NN (73 + 12 * i + 1) (.inl 5) ∧ At shC NN (73 + 12 * i + 6) (.inl 8) := by
  have h1 : ∀ k, k < 4 → (shC (73 + 12 * k) = .inl 4 ∧ shC (73 + 12 * k + 1) = .inl 5 ∧ shC (73 + 12 * k + 6) = .inl 8) := by decide +kernel
  obtain ⟨a, b, c⟩ := h1 i h
  exact ⟨⟨a, by omega, by show _ ≤ 200; omega⟩, ⟨b, by omega, by show _ ≤ 200; omega⟩, ⟨c, by omega, by show _ ≤ 200; omega⟩⟩
theorem op_mark {t : TT} {tb B : Nat} {M N : Mm} {x z : Int} (hx : rng x) (hz : rng z) (h0 : Sim t tb B M N) : Op (S_Main_mark x z) (S_Mod_mark x z) B M N := by
  have h := h0
  obtain ⟨hW, hT, hS, hN, hP, hY, hH, hU, hM⟩ := h
  have htb := hT.1
  have hn := hW.1
  have et : ∀ c, c ≠ 1 → (upr N 1 (up1 (N 1) 0 0)) c = N c := fun c hc => by rw [upr_eq, if_neg hc]
  by_cases q : 0 ≤ x ∧ x ≤ 3
  · obtain ⟨i, rfl⟩ : ∃ i : Nat, x = (i : Int) := ⟨x.toNat, by omega⟩
    have hi : i < 4 := by omega
    obtain ⟨A1, A2, A3⟩ := at_mk hi
    obtain ⟨m1, m2, m3⟩ := hM i hi
    have e1 : (1 : Int) + i = ((1 + i : Nat) : Int) := by omega
    have e33 : (33 : Int) * i = ((33 * i : Nat) : Int) := by omega
    by_cases hz0 : z = 0
    · subst hz0
      refine ⟨1, fun M' => ∃ M1, ((∀ n σ, n ≤ 7 → RS n σ M 42 → RS n σ M1 (73 + 12 * i + 1)) ∧ (M1 (73 + 12 * i + 6) 3 = M 47 3 ∧ ∀ j, 1 ≤ j → j ≤ 3 → ∀ k, k < 40 → M1 (73 + 12 * i + 6 + j) k = M (47 + j) k) ∧ (M1 (73 + 12 * i) 4 = M 41 4 ∧ M1 (73 + 12 * i) 5 = M 41 5 ∧ (∀ k, k < 8 → M1 (73 + 12 * i + 10) k = M 51 k) ∧ (∀ k, k < 8 → M1 (73 + 12 * i + 11) k = M 52 k)) ∧ FrC (fun c => 73 + 12 * i ≤ c ∧ c ≤ 73 + 12 * i + 11) M M1) ∧ M' = upr M1 59 (up1 (M1 59) i 1),
        fun N' => N' 38 = up1 (N 38) i 1 ∧ N' 26 = up1 (N 26) (1 + i) (N 26 0) ∧ (∀ c, 27 ≤ c → c ≤ 29 → ∀ j, N' c j = if 40 * (1 + i) ≤ j ∧ j < 40 * (1 + i) + 40 then N c (40 * 0 + (j - 40 * (1 + i))) else N c j) ∧ N' 30 = up1 (N 30) (1 + i) (N 30 0) ∧ N' 31 = up1 (N 31) (1 + i) (N 31 0) ∧ (∀ c, 32 ≤ c → c ≤ 33 → ∀ j, N' c j = if 8 * (1 + i) ≤ j ∧ j < 8 * (1 + i) + 8 then N c (8 * 0 + (j - 8 * (1 + i))) else N c j) ∧ (∀ j, N' 36 j = if 33 * i ≤ j ∧ j < 33 * i + 33 then N 34 (0 + (j - 33 * i)) else N 36 j) ∧ FrM (fun c => (26 ≤ c ∧ c ≤ 33) ∨ c = 36 ∨ c = 38) (fun k => k = 0) N N', ?_, ?_, ?_⟩
      · refine W_Main_mark _ _ M ⟨hx, fun z => by omega, fun _ => ⟨hx, fun _ => ⟨hz, fun z => absurd rfl z, fun _ => ⟨by omega, ?_⟩⟩, fun z => by omega⟩⟩
        rw [Int.toNat_natCast]
        refine ⟨_, c_ScopyFrom A1 atC_41 A2 atC_42 A3 atC_47 (by omega), ?_⟩
        intro M1 hM1
        refine ⟨by omega, ?_⟩
        rintro M2 rfl
        exact ⟨rfl, M1, hM1, rfl⟩
      · refine e_Mod_mark _ _ N fun K hK => w_Mod_mark_0 hK _ _ N ?_
        rintro N1 rfl
        refine ⟨_, m_within hx (by omega) (by omega), ?_⟩
        rintro r N2 ⟨rfl, rfl⟩
        refine ⟨zo_rng _, fun z => by simp [q] at z, fun _ => ⟨hz, fun _ => ?_, fun z => absurd rfl z⟩⟩
        refine w_Mod_mark_29 hK _ _ _ ⟨by omega, ?_⟩
        rintro N1 rfl
        refine ⟨hz, fun _ => ⟨hz, fun _ => ?_, fun z => absurd rfl z⟩, fun z => absurd rfl z⟩
        rw [Int.toNat_natCast]
        refine w_Mod_mark_59 hK _ _ _ _ _ ?_
        rw [e1]
        refine ⟨_, m_laysLines (a := 0) (by omega) (by omega) (by omega), ?_⟩
        rintro N3 ⟨a1, a2, a3⟩
        refine ⟨_, m_laysSeen (a := 0) (by omega) (by omega) (by omega), ?_⟩
        rintro N4 ⟨b1, b2, b3, b4⟩
        refine ⟨hz, fun _ => ?_, fun z => absurd rfl z⟩
        rw [e33]
        refine ⟨_, m_copies (a := 0) atM_34 atM_36 (by omega) (by omega) (by omega) (by omega) (by omega), ?_⟩
        rintro N5 rfl
        have g1 : ∀ c, c ≠ 1 → c ≠ 38 → (upr (upr N 1 (up1 (N 1) 0 0)) 38 (up1 ((upr N 1 (up1 (N 1) 0 0)) 38) i 1)) c = N c := fun c h1 h2 => by rw [upr_eq, if_neg h2, et c h1]
        refine ⟨rfl, ?_, ?_, ?_, ?_, ?_, ?_, ?_, ?_⟩
        · rw [upr_eq, if_neg (by omega), b4.1 38 (by omega) (by omega), a3.1 38 (by omega) (by omega), upr_eq, if_pos rfl, et 38 (by omega)]
        · rw [upr_eq, if_neg (by omega), b4.1 26 (by omega) (by omega), a1, g1 26 (by omega) (by omega)]
        · intro c c1 c2 j
          rw [upr_eq, if_neg (by omega), b4.1 c (by omega) (by omega), a2 c c1 c2, g1 c (by omega) (by omega)]
        · rw [upr_eq, if_neg (by omega), b1, a3.1 30 (by omega) (by omega), g1 30 (by omega) (by omega)]
        · rw [upr_eq, if_neg (by omega), b2, a3.1 31 (by omega) (by omega), g1 31 (by omega) (by omega)]
        · intro c c1 c2 j
          rw [upr_eq, if_neg (by omega), b3 c c1 c2, a3.1 c (by omega) (by omega), g1 c (by omega) (by omega)]
        · intro j
          rw [upr_eq, if_pos rfl, b4.1 34 (by omega) (by omega), a3.1 34 (by omega) (by omega), g1 34 (by omega) (by omega), b4.1 36 (by omega) (by omega), a3.1 36 (by omega) (by omega), g1 36 (by omega) (by omega)]
        · exact ((((FrM.u1 (q := fun k => k = 0) rfl).tr (FrM.up (c := 38) (by omega) (by omega))).tr (a3.wk (fun c hc => by omega) (fun _ z => z.elim))).tr (b4.wk (fun c hc => by omega) (fun _ z => z.elim))).tr (FrM.up (c := 36) (by omega) (by omega))
      · rintro M' N' ⟨M1, ⟨r1, ⟨y1, y2⟩, ⟨s1, s2, s3, s4⟩, f1⟩, rfl⟩ ⟨b1, b2, b3, b4, b5, b6, b7, f⟩
        have e : ∀ c, c ≠ 59 → ¬ (73 + 12 * i ≤ c ∧ c ≤ 73 + 12 * i + 11) → (upr M1 59 (up1 (M1 59) i 1)) c = M c := fun c h1 h2 => by rw [upr_eq, if_neg h1, f1 c h2]
        have e9 : ∀ c, c ≠ 59 → (upr M1 59 (up1 (M1 59) i 1)) c = M1 c := fun c h1 => by rw [upr_eq, if_neg h1]
        refine ⟨t, tb, Sim.mono (B := B) ⟨hW, hT.fr (by rw [e 1 (by omega) (by omega)]) (by rw [e 1 (by omega) (by omega)]) (fun c _ _ _ _ => e _ (by omega) (by omega)) (fun c _ _ => f.1 c (by omega) (by omega)), hS.fr (fun c _ _ => e c (by omega) (by omega)) (fun c _ => f.1 c (by omega) (by omega)), ?_, hP.fr (by rw [e 2 (by omega) (by omega)]) (e 3 (by omega) (by omega)) (f.2 1 (by omega)) (f.1 2 (by omega) (by omega)), ?_, ?_, hU.fr (Nat.le_refl _) (by rw [e 1 (by omega) (by omega)]) (by rw [e 1 (by omega) (by omega)]) (fun c _ _ => e c (by omega) (by omega)) (f.2 50 (by omega)) (f.1 37 (by omega) (by omega)), ?_⟩ (Nat.le_succ _)⟩
        · unfold SimN
          rw [f.1 34 (by omega) (by omega)]
          exact ⟨hN.1.fr (fun j _ => e _ (by omega) (by omega)), hN.2⟩
        · exact hY.cp (by rw [e _ (by omega) (by omega)]) (fun j _ _ k _ => by rw [e _ (by omega) (by omega)]) (by rw [b2, up1_eq, if_neg (by omega)]) (fun c c1 c2 k hk => by rw [b3 c c1 c2, if_neg (by omega)])
        · exact hH.cp (by rw [e _ (by omega) (by omega)]) (by rw [e _ (by omega) (by omega)]) (fun k _ => by rw [e _ (by omega) (by omega)]) (fun k _ => by rw [e _ (by omega) (by omega)]) (by rw [b4, up1_eq, if_neg (by omega)]) (by rw [b5, up1_eq, if_neg (by omega)]) (fun k _ => by rw [b6 32 (by omega) (by omega), if_neg (by omega)]) (fun k _ => by rw [b6 33 (by omega) (by omega), if_neg (by omega)])
        · intro j hj
          obtain ⟨c1, c2, c3⟩ := hM j hj
          have e59 : (upr M1 59 (up1 (M1 59) i 1)) 59 = up1 (M 59) i 1 := by rw [upr_eq, if_pos rfl, f1 59 (by omega)]
          rw [b1, e59, up1_eq, up1_eq]
          by_cases ej : j = i
          · subst ej
            rw [if_pos rfl, if_pos rfl]
            have e36 : ∀ k, k < 33 → N' 36 (33 * j + k) = N 34 k := fun k hk => by rw [b7, if_pos (by omega)]; congr 1; omega
            refine ⟨rfl, Or.inr rfl, fun _ => ⟨?_, ?_, ?_, ?_⟩⟩
            · exact (RS.fr (r1 _ _ hn hN.1) (fun k _ => e9 _ (by omega))).cg hn (fun k hk => e36 k hk) |> fun z => by
                rw [show 74 + 12 * j = 73 + 12 * j + 1 by omega]; exact z
            · exact hN.2.cg hn (fun k hk => e36 k hk)
            · rw [show 79 + 12 * j = 73 + 12 * j + 6 by omega]
              refine hY.cp (by rw [e9 _ (by omega)]; exact y1) (fun k k1 k2 l hl => by rw [e9 _ (by omega)]; exact y2 k k1 k2 l hl) (by rw [b2, up1_eq, if_pos (by omega)]) (fun c c1 c2 k hk => by rw [b3 c c1 c2, if_pos (by omega)]; congr 1; omega)
            · exact hH.cp (by rw [e9 _ (by omega)]; exact s1) (by rw [e9 _ (by omega)]; exact s2) (fun k hk => by rw [e9 _ (by omega)]; exact s3 k hk) (fun k hk => by rw [e9 _ (by omega)]; exact s4 k hk) (by rw [b4, up1_eq, if_pos (by omega)]) (by rw [b5, up1_eq, if_pos (by omega)]) (fun k _ => by rw [b6 32 (by omega) (by omega), if_pos (by omega)]; congr 1; omega) (fun k _ => by rw [b6 33 (by omega) (by omega), if_pos (by omega)]; congr 1; omega)
          · rw [if_neg ej, if_neg ej]
            have e36 : ∀ k, k < 33 → N' 36 (33 * j + k) = N 36 (33 * j + k) := fun k hk => by rw [b7, if_neg (by omega)]
            refine ⟨c1, c2, fun z => ?_⟩
            obtain ⟨d1, d2, d3, d4⟩ := c3 z
            refine ⟨(d1.fr (fun k _ => e _ (by omega) (by omega))).cg hn e36, d2.cg hn e36, ?_, ?_⟩
            · exact d3.cp (by rw [e _ (by omega) (by omega)]) (fun k _ _ l _ => by rw [e _ (by omega) (by omega)]) (by rw [b2, up1_eq, if_neg (by omega)]) (fun c c1 c2 k hk => by rw [b3 c c1 c2, if_neg (by omega)])
            · exact d4.cp (by rw [e _ (by omega) (by omega)]) (by rw [e _ (by omega) (by omega)]) (fun k _ => by rw [e _ (by omega) (by omega)]) (fun k _ => by rw [e _ (by omega) (by omega)]) (by rw [b4, up1_eq, if_neg (by omega)]) (by rw [b5, up1_eq, if_neg (by omega)]) (fun k _ => by rw [b6 32 (by omega) (by omega), if_neg (by omega)]) (fun k _ => by rw [b6 33 (by omega) (by omega), if_neg (by omega)])
    · by_cases hl : N 38 i = 0
      · refine Op.ask (v := 0) h0 ?_ ?_
        · refine W_Main_mark _ _ M ⟨hx, fun z => by omega, fun _ => ⟨hx, fun _ => ⟨hz, fun _ => ⟨by omega, ?_⟩, fun z => absurd z hz0⟩, fun z => by omega⟩⟩
          rw [Int.toNat_natCast, m1, hl]
          exact ⟨by omega, fun z => absurd rfl z, fun _ => ⟨rfl, FrC.rf⟩⟩
        · refine e_Mod_mark _ _ N fun K hK => w_Mod_mark_0 hK _ _ N ?_
          rintro N1 rfl
          refine ⟨_, m_within hx (by omega) (by omega), ?_⟩
          rintro r N2 ⟨rfl, rfl⟩
          refine ⟨zo_rng _, fun z => by simp [q] at z, fun _ => ⟨hz, fun z => absurd z hz0, fun _ => ⟨by omega, ?_⟩⟩⟩
          rw [Int.toNat_natCast, et 38 (by omega), hl]
          exact ⟨by omega, fun z => absurd rfl z, fun _ => ⟨rfl, thrM, fun i _ => by rw [s34]⟩⟩
      · have hl1 : N 38 i = 1 := m2.resolve_left hl
        obtain ⟨d1, d2, d3, d4⟩ := m3 hl1
        refine ⟨1, fun M' => ∃ M1, ((∀ n σ, n ≤ 7 → RS n σ M (73 + 12 * i + 1) → RS n σ M1 42) ∧ (M1 47 3 = M (73 + 12 * i + 6) 3 ∧ ∀ j, 1 ≤ j → j ≤ 3 → ∀ k, k < 40 → M1 (47 + j) k = M (73 + 12 * i + 6 + j) k) ∧ (M1 41 4 = M (73 + 12 * i) 4 ∧ M1 41 5 = M (73 + 12 * i) 5 ∧ (∀ k, k < 8 → M1 51 k = M (73 + 12 * i + 10) k) ∧ (∀ k, k < 8 → M1 52 k = M (73 + 12 * i + 11) k)) ∧ FrC (fun c => 41 ≤ c ∧ c ≤ 52) M M1) ∧ M' = upr M1 1 (up1 (M1 1) 11 0),
          fun N' => N' 38 = up1 (N 38) i 1 ∧ N' 26 = up1 (N 26) 0 (N 26 (1 + i)) ∧ (∀ c, 27 ≤ c → c ≤ 29 → ∀ j, N' c j = if 40 * 0 ≤ j ∧ j < 40 * 0 + 40 then N c (40 * (1 + i) + (j - 40 * 0)) else N c j) ∧ N' 30 = up1 (N 30) 0 (N 30 (1 + i)) ∧ N' 31 = up1 (N 31) 0 (N 31 (1 + i)) ∧ (∀ c, 32 ≤ c → c ≤ 33 → ∀ j, N' c j = if 8 * 0 ≤ j ∧ j < 8 * 0 + 8 then N c (8 * (1 + i) + (j - 8 * 0)) else N c j) ∧ (∀ j, N' 34 j = if 0 ≤ j ∧ j < 0 + 33 then N 36 (33 * i + (j - 0)) else N 34 j) ∧ N' 1 50 = 0 ∧ FrM (fun c => (26 ≤ c ∧ c ≤ 33) ∨ c = 34 ∨ c = 38) (fun k => k = 0 ∨ k = 50) N N', ?_, ?_, ?_⟩
        · refine W_Main_mark _ _ M ⟨hx, fun z => by omega, fun _ => ⟨hx, fun _ => ⟨hz, fun _ => ⟨by omega, ?_⟩, fun z => absurd z hz0⟩, fun z => by omega⟩⟩
          rw [Int.toNat_natCast, m1, hl1]
          refine ⟨by omega, fun _ => ⟨by omega, ?_⟩, fun z => by omega⟩
          refine ⟨_, c_ScopyFrom atC_41 A1 atC_42 A2 atC_47 A3 (by omega), ?_⟩
          intro M1 hM1
          rintro M2 rfl
          exact ⟨rfl, M1, hM1, rfl⟩
        · refine e_Mod_mark _ _ N fun K hK => w_Mod_mark_0 hK _ _ N ?_
          rintro N1 rfl
          refine ⟨_, m_within hx (by omega) (by omega), ?_⟩
          rintro r N2 ⟨rfl, rfl⟩
          refine ⟨zo_rng _, fun z => by simp [q] at z, fun _ => ⟨hz, fun z => absurd z hz0, fun _ => ⟨by omega, ?_⟩⟩⟩
          rw [Int.toNat_natCast, et 38 (by omega), hl1]
          refine ⟨by omega, fun _ => ?_, fun z => by omega⟩
          refine w_Mod_mark_29 hK _ _ _ ⟨by omega, ?_⟩
          rintro N1 rfl
          refine ⟨hz, fun z => absurd z hz0, fun _ => ⟨hz, fun z => absurd z hz0, fun _ => ?_⟩⟩
          rw [Int.toNat_natCast]
          refine w_Mod_mark_59 hK _ _ _ _ _ ?_
          rw [e1]
          refine ⟨_, m_laysLines (b := 0) (by omega) (by omega) (by omega), ?_⟩
          rintro N3 ⟨a1, a2, a3⟩
          refine ⟨_, m_laysSeen (b := 0) (by omega) (by omega) (by omega), ?_⟩
          rintro N4 ⟨b1, b2, b3, b4⟩
          refine ⟨hz, fun z => absurd z hz0, fun _ => ?_⟩
          rw [e33]
          refine ⟨_, m_copies (c := 0) atM_36 atM_34 (by omega) (by omega) (by omega) (by omega) (by omega), ?_⟩
          rintro N5 rfl
          rintro N6 rfl
          have g1 : ∀ c, c ≠ 1 → c ≠ 38 → (upr (upr N 1 (up1 (N 1) 0 0)) 38 (up1 ((upr N 1 (up1 (N 1) 0 0)) 38) i 1)) c = N c := fun c h1 h2 => by rw [upr_eq, if_neg h2, et c h1]
          refine ⟨rfl, ?_, ?_, ?_, ?_, ?_, ?_, ?_, ?_, ?_⟩
          · rw [upr_eq, if_neg (by omega), upr_eq, if_neg (by omega), b4.1 38 (by omega) (by omega), a3.1 38 (by omega) (by omega), upr_eq, if_pos rfl, et 38 (by omega)]
          · rw [upr_eq, if_neg (by omega), upr_eq, if_neg (by omega), b4.1 26 (by omega) (by omega), a1, g1 26 (by omega) (by omega)]
          · intro c c1 c2 j
            rw [upr_eq, if_neg (by omega), upr_eq, if_neg (by omega), b4.1 c (by omega) (by omega), a2 c c1 c2, g1 c (by omega) (by omega)]
          · rw [upr_eq, if_neg (by omega), upr_eq, if_neg (by omega), b1, a3.1 30 (by omega) (by omega), g1 30 (by omega) (by omega)]
          · rw [upr_eq, if_neg (by omega), upr_eq, if_neg (by omega), b2, a3.1 31 (by omega) (by omega), g1 31 (by omega) (by omega)]
          · intro c c1 c2 j
            rw [upr_eq, if_neg (by omega), upr_eq, if_neg (by omega), b3 c c1 c2, a3.1 c (by omega) (by omega), g1 c (by omega) (by omega)]
          · intro j
            rw [upr_eq, if_neg (by omega), upr_eq, if_pos rfl, b4.1 34 (by omega) (by omega), a3.1 34 (by omega) (by omega), g1 34 (by omega) (by omega), b4.1 36 (by omega) (by omega), a3.1 36 (by omega) (by omega), g1 36 (by omega) (by omega)]
          · rw [upr_eq, if_pos rfl, up1_eq, if_pos rfl]
          · exact (((((FrM.u1 (q := fun k => k = 0 ∨ k = 50) (Or.inl rfl)).tr (FrM.up (c := 38) (by omega) (by omega))).tr (a3.wk (fun c hc => by omega) (fun _ z => z.elim))).tr (b4.wk (fun c hc => by omega) (fun _ z => z.elim))).tr (FrM.up (c := 34) (by omega) (by omega))).tr (FrM.u1 (Or.inr rfl))
        · rintro M' N' ⟨M1, ⟨r1, ⟨y1, y2⟩, ⟨s1, s2, s3, s4⟩, f1⟩, rfl⟩ ⟨b1, b2, b3, b4, b5, b6, b7, b8, f⟩
          have e9 : ∀ c, c ≠ 1 → (upr M1 1 (up1 (M1 1) 11 0)) c = M1 c := fun c h1 => by rw [upr_eq, if_neg h1]
          have e : ∀ c, c ≠ 1 → ¬ (41 ≤ c ∧ c ≤ 52) → (upr M1 1 (up1 (M1 1) 11 0)) c = M c := fun c h1 h2 => by rw [e9 c h1, f1 c h2]
          have ek : ∀ k, k ≠ 11 → (upr M1 1 (up1 (M1 1) 11 0)) 1 k = M 1 k := fun k hk => by rw [upr_eq, if_pos rfl, up1_eq, if_neg hk, f1 1 (by omega)]
          have f38 : N' 38 = N 38 := by
            rw [b1]; funext k; rw [up1_eq]; by_cases ek : k = i
            · rw [if_pos ek, ek, hl1]
            · rw [if_neg ek]
          have e34 : ∀ k, k < 33 → N' 34 k = N 36 (33 * i + k) := fun k hk => by rw [b7, if_pos (by omega)]; congr 1
          refine ⟨t, tb, Sim.mono (B := B) ⟨hW, hT.fr (ek 1 (by omega)) (ek 2 (by omega)) (fun c _ _ _ _ => e _ (by omega) (by omega)) (fun c _ _ => f.1 c (by omega) (by omega)), hS.fr (fun c _ _ => e c (by omega) (by omega)) (fun c _ => f.1 c (by omega) (by omega)), ?_, hP.fr (by rw [e 2 (by omega) (by omega)]) (e 3 (by omega) (by omega)) (f.2 1 (by omega)) (f.1 2 (by omega) (by omega)), ?_, ?_, ?_, ?_⟩ (Nat.le_succ _)⟩
          · refine ⟨?_, d2.cg hn e34⟩
            rw [show 74 + 12 * i = 73 + 12 * i + 1 by omega] at d1
            exact ((r1 _ _ hn d1).fr (fun k _ => e9 _ (by omega))).cg hn e34
          · rw [show 79 + 12 * i = 73 + 12 * i + 6 by omega] at d3
            exact d3.cp (by rw [e9 _ (by omega)]; exact y1) (fun j j1 j2 k hk => by rw [e9 _ (by omega)]; exact y2 j j1 j2 k hk) (by rw [b2, up1_eq, if_pos rfl, Nat.add_comm]) (fun c c1 c2 k hk => by rw [b3 c c1 c2, if_pos (by omega)]; congr 1; omega)
          · exact d4.cp (by rw [e9 _ (by omega)]; exact s1) (by rw [e9 _ (by omega)]; exact s2) (fun k hk => by rw [e9 _ (by omega)]; exact s3 k hk) (fun k hk => by rw [e9 _ (by omega)]; exact s4 k hk) (by rw [b4, up1_eq, if_pos rfl, Nat.add_comm]) (by rw [b5, up1_eq, if_pos rfl, Nat.add_comm]) (fun k _ => by rw [b6 32 (by omega) (by omega), if_pos (by omega)]; congr 1; omega) (fun k _ => by rw [b6 33 (by omega) (by omega), if_pos (by omega)]; congr 1; omega)
          · obtain ⟨nx, d, u1, u2, u3, u4, u5, u6⟩ := hU
            refine ⟨nx, 0, ?_, ?_, b8, u4, by omega, fun i hi => by omega⟩
            · rw [ek 10 (by omega)]; exact u1
            · rw [upr_eq, if_pos rfl, up1_eq, if_pos rfl]; rfl
          · exact hM.cp (Nat.le_refl _) (e 59 (by omega) (by omega)) (fun c _ _ => e c (by omega) (by omega)) (fun k _ => by rw [b2, up1_eq, if_neg (by omega)]) (fun c c1 c2 k _ => by rw [b3 c c1 c2, if_neg (by omega)]) (fun k hk => by rw [b4, up1_eq, if_neg (by omega)]) (fun k _ => by rw [b5, up1_eq, if_neg (by omega)]) (fun k _ => by rw [b6 32 (by omega) (by omega), if_neg (by omega)]) (fun k _ => by rw [b6 33 (by omega) (by omega), if_neg (by omega)]) (f.1 36 (by omega) (by omega)) f38
  · refine Op.ask (v := 0) h0 ?_ ?_
    · exact W_Main_mark _ _ M ⟨hx, fun _ => ⟨rfl, FrC.rf⟩, fun _ => ⟨hx, fun z => by omega, fun _ => ⟨rfl, FrC.rf⟩⟩⟩
    · refine e_Mod_mark _ _ N fun K hK => w_Mod_mark_0 hK _ _ N ?_
      rintro N1 rfl
      refine ⟨_, m_within hx (by omega) (by omega), ?_⟩
      rintro r N2 ⟨rfl, rfl⟩
      exact ⟨zo_rng _, fun _ => ⟨rfl, thrM, fun i _ => by rw [s34]⟩, fun z => absurd (by simpa using zo_ne z) (by omega : ¬ (0 ≤ x ∧ x ≤ 3))⟩
