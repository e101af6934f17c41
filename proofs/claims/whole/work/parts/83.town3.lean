/-- what the class leaves behind a town -/
def AtC (D : DT) (tb : Nat) (M M' : Mm) : Prop := (M' 1 1 = 22 - (tb : Int) ∧ M' 1 2 = (tb : Int) ∧ M' 1 11 = 0 ∧ M' 1 10 = M 1 10 ∧ M' 2 1 = 0) ∧ DC D (22 - tb) M' ∧ RS (dn D) (sD D) M' 36 ∧ RS (dn D) (sD D) M' 42 ∧ (M' 47 3 = 0 ∧ M' 41 4 = 0 ∧ M' 41 5 = -1) ∧ (∀ i, i < 4 → M' 59 i = 0) ∧ FrC (fun c => c = 1 ∨ c = 2 ∨ c = 59 ∨ (22 - tb ≤ c ∧ c ≤ 22 - tb + 13) ∨ (36 ≤ c ∧ c ≤ 52)) M M'
theorem at_tw {tb : Nat} (h : tb = 4 ∨ tb = 18) : At shC NN tb (.inl 7) ∧ At shC NN (22 - tb) (.inl 7) := by
  rcases h with rfl | rfl
  · exact ⟨atC_4, atC_18⟩
  · exact ⟨atC_18, atC_4⟩
theorem c_town_l {t : TT} {tb len : Nat} {M N : Mm} {f : FLT} (hT : SimT t tb M N) (hl : M 2 1 = (len : Int)) (hW : WX (M 3, len)) (hR : rdTown (M 3, len) 1000 D0 0 = .inl f) : S_Main_town M (fun x M' => x = (f.1 : Int) + 16 * (f.2 : Int) ∧ (M' 2 1 = 0 ∧ FrC (inT (22 - tb)) M M' ∧ kpT (22 - tb) M M')) := by
  obtain ⟨htb, h1, h2, -, -, -, h7⟩ := hT
  have hb := (at_tw htb).2
  have h8 : M (22 - tb + 8) 0 = 0 ∧ M (22 - tb + 11) 0 = 1 := by
    rcases htb with rfl | rfl
    · exact ⟨h7.2.2.1, h7.2.2.2⟩
    · exact ⟨h7.1, h7.2.1⟩
  refine e_Main_town M fun K hK => w_Main_town_0 hK M ⟨_, c_beginReading hl hW, ?_⟩
  rintro M1 ⟨a1, a2, a3⟩
  refine ⟨22 - tb, by rw [a3 1 (by omega), h2]; omega, hb, _, c_readTown hW a1 hb (by rw [a3 _ (by omega)]; exact h8.1) (by rw [a3 _ (by omega)]; exact h8.2), ?_⟩
  rintro r M2 ⟨b1, ⟨b2, b5⟩, b3, -⟩
  obtain ⟨rfl, e⟩ := b3 f hR
  refine ⟨by decide, fun z => absurd rfl z, fun _ => ⟨e, b2.trans a2, (a3.wk (fun c hc => Or.inl hc)).tr b1, by rw [b5.1, a3 _ (by omega)], by rw [b5.2, a3 _ (by omega)]⟩⟩
theorem c_town_r {t : TT} {tb len : Nat} {M N : Mm} {D : DT} (hT : SimT t tb M N) (hl : M 2 1 = (len : Int)) (hW : WX (M 3, len)) (hR : rdTown (M 3, len) 1000 D0 0 = .inr D) : S_Main_town M (fun x M' => x = 0 ∧ AtC D tb M M') := by
  obtain ⟨htb, h1, h2, -, -, -, h7⟩ := hT
  have hb := (at_tw htb).2
  have h8 : M (22 - tb + 8) 0 = 0 ∧ M (22 - tb + 11) 0 = 1 := by
    rcases htb with rfl | rfl
    · exact ⟨h7.2.2.1, h7.2.2.2⟩
    · exact ⟨h7.1, h7.2.1⟩
  refine e_Main_town M fun K hK => w_Main_town_0 hK M ⟨_, c_beginReading hl hW, ?_⟩
  rintro M1 ⟨a1, a2, a3⟩
  refine ⟨22 - tb, by rw [a3 1 (by omega), h2]; omega, hb, _, c_readTown hW a1 hb (by rw [a3 _ (by omega)]; exact h8.1) (by rw [a3 _ (by omega)]; exact h8.2), ?_⟩
  rintro r M2 ⟨b1, ⟨b2, b5⟩, -, b4⟩
  obtain ⟨rfl, hD, hw⟩ := b4 D hR
  have e1 : M2 1 = M 1 := (b1 1 (by omega)).trans (a3 1 (by omega))
  refine ⟨by decide, fun _ => ⟨tb, by rw [e1]; exact h1, (at_tw htb).1, 22 - tb, by rw [e1, h2]; omega, hb, fun M3 g3 M4 g4 => ?_⟩, fun z => absurd z (by decide)⟩
  have e4 : ∀ c, c ≠ 1 → M4 c = M2 c := fun c hc => by rw [g4, upr_eq, if_neg hc, g3, upr_eq, if_neg hc]
  have e41 : M4 1 = up1 (up1 (M 1) 1 ((22 - tb : Nat) : Int)) 2 (tb : Int) := by rw [g4, upr_eq, if_pos rfl, g3, upr_eq, if_pos rfl, e1]
  have hD4 : DC D (22 - tb) M4 := hD.fr (fun i hi => e4 _ (by omega))
  refine ⟨22 - tb, by rw [e41]; rfl, hb, _, c_SbeginAs hb hw hD4, ?_⟩
  rintro M5 ⟨s5, f5⟩
  refine ⟨_, c_beginAs hw.1 s5, ?_⟩
  rintro M6 ⟨s6, y6, h6, q6, f6⟩
  intro M7 g7
  have e7 : ∀ c, c ≠ 1 → M7 c = M6 c := fun c hc => by rw [g7, upr_eq, if_neg hc]
  have e71 : M7 1 = up1 (up1 (up1 (M 1) 1 ((22 - tb : Nat) : Int)) 2 (tb : Int)) 11 0 := by rw [g7, upr_eq, if_pos rfl, f6 1 (by omega), f5 1 (by omega), e41]
  have fin : ∀ M8 : Mm, (∀ c, c ≠ 59 → M8 c = M7 c) → (∀ i, i < 4 → M8 59 i = 0) → AtC D tb M M8 := by
    intro M8 e h
    refine ⟨⟨?_, ?_, ?_, ?_, ?_⟩, hD4.fr (fun i hi => ?_), s5.fr (fun i hi => ?_), s6.fr (fun i hi => ?_), ⟨?_, ?_, ?_⟩, h, fun c hc => ?_⟩
    · rw [e 1 (by omega), e71]; show ((22 - tb : Nat) : Int) = _; omega
    · rw [e 1 (by omega), e71]; rfl
    · rw [e 1 (by omega), e71]; rfl
    · rw [e 1 (by omega), e71]; rfl
    · rw [e 2 (by omega), e7 2 (by omega), f6 2 (by omega), f5 2 (by omega), e4 2 (by omega), b2, a2]
    · rw [e _ (by omega), e7 _ (by omega), f6 _ (by omega), f5 _ (by omega)]
    · rw [e _ (by omega), e7 _ (by omega), f6 _ (by omega)]
    · rw [e _ (by omega), e7 _ (by omega)]
    · rw [e _ (by omega), e7 _ (by omega)]; exact y6
    · rw [e _ (by omega), e7 _ (by omega)]; exact h6
    · rw [e _ (by omega), e7 _ (by omega)]; exact q6
    · rw [e c (by omega), e7 c (by omega), f6 c (by omega), f5 c (by omega), e4 c (by omega), b1 c (by omega), a3 c (by omega)]
  have key : ∀ i, i ≤ 4 → ∀ M8 : Mm, (∀ c, c ≠ 59 → M8 c = M7 c) → (∀ j, j < i → M8 59 j = 0) → K NN RRC 76 [(0, vr 1), (2, vi (i : Int))] [] M8 := by
    refine up_ind ?_ ?_
    · intro M8 e h
      exact w_Main_town_76 hK _ M8 ⟨by decide, fun _ => ⟨rfl, fin M8 e h⟩, fun z => absurd (by decide) z⟩
    · intro i hi ih M8 e h
      refine w_Main_town_76 hK _ M8 ⟨by omega, fun z => by omega, fun _ => ⟨by omega, fun M9 g9 => ?_⟩⟩
      rw [Int.toNat_natCast] at g9
      rw [show (i : Int) + 1 = ((i + 1 : Nat) : Int) by omega]
      refine ih M9 (fun c hc => by rw [g9, upr_eq, if_neg hc]; exact e c hc) (fun j hj => ?_)
      rw [g9, upr_eq, if_pos rfl, up1_eq]
      by_cases e2 : j = i
      · rw [if_pos e2]
      · rw [if_neg e2]; exact h j (by omega)
  exact key 0 (by omega) M7 (fun c _ => rfl) (fun j hj => absurd hj (Nat.not_lt_zero _))
/-- what the model leaves behind a town -/
def AtM (D : DT) (N N' : Mm) : Prop := RM (tD D) N' ∧ (∀ q, q < dn D → N' 4 q = enc 27 (dnm D q)) ∧ (∀ i, st0 (dn D) N' i = sD D i) ∧ (∀ j, j < 33 → N' 34 j = sD D j) ∧ N' 26 0 = 0 ∧ N' 30 0 = -1 ∧ N' 31 0 = 0 ∧ N' 1 50 = 0 ∧ N' 1 1 = 0 ∧ ∀ i, i < 4 → N' 38 i = 0
theorem tfa0 {N N' : Mm} (h : TfA (upr N 1 (up1 (N 1) 0 0)) N') : FrM (fun c => 3 ≤ c ∧ c ≤ 15) (fun k => qT k ∨ k = 1 ∨ k = 3 ∨ k = 0) N N' ∧ (∀ c, 3 ≤ c → c ≤ 15 → ∀ k, k < loB c → N' c k = N c k) := by
  refine ⟨⟨fun c a b => (h.1.1 c a b).trans (by rw [upr_eq, if_neg a]), fun k hk => ?_⟩, fun c a b k hk => (h.2 c a b k hk).trans (by rw [upr_eq, if_neg (by omega)])⟩
  rw [h.1.2 k (fun z => hk (by rcases z with z | z | z; exact Or.inl z; exact Or.inr (Or.inl z); exact Or.inr (Or.inr (Or.inl z)))), upr_eq, if_pos rfl, up1_eq, if_neg (fun z => hk (Or.inr (Or.inr (Or.inr z))))]
theorem m_town_l {tx : TX} {N : Mm} {f : FLT} (hW : WX tx) (ht : ∀ j, j < tx.2 → N 2 j = tx.1 j) (h1 : N 1 1 = (tx.2 : Int)) (hR : rdTown tx 1000 D0 0 = .inl f) : S_Mod_town N (fun x N' => x = (f.1 : Int) + 16 * (f.2 : Int) ∧ (N' 1 1 = 0 ∧ FrM (fun c => 3 ≤ c ∧ c ≤ 15) (fun k => qT k ∨ k = 1 ∨ k = 3 ∨ k = 0) N N' ∧ (∀ c, 3 ≤ c → c ≤ 15 → ∀ k, k < loB c → N' c k = N c k))) := by
  refine e_Mod_town N fun K hK => w_Mod_town_0 hK N ?_
  rintro N1 rfl
  refine ⟨_, m_readsAll hW ht h1, ?_⟩
  rintro r N2 ⟨a, b, -⟩
  obtain ⟨rfl, e⟩ := b f hR
  exact ⟨by decide, fun z => absurd rfl z, fun _ => ⟨e, a.2.1, tfa0 a.1⟩⟩
theorem m_town_r {tx : TX} {N : Mm} {D : DT} (hW : WX tx) (ht : ∀ j, j < tx.2 → N 2 j = tx.1 j) (h1 : N 1 1 = (tx.2 : Int)) (hR : rdTown tx 1000 D0 0 = .inr D) : S_Mod_town N (fun x N' => x = 0 ∧ AtM D N N') := by
  have hX := hW.1
  refine e_Mod_town N fun K hK => w_Mod_town_0 hK N ?_
  rintro N1 rfl
  refine ⟨_, m_readsAll hW ht h1, ?_⟩
  rintro r N2 ⟨a, -, b⟩
  obtain ⟨rfl, hw, ci, hD, hci⟩ := b D hR
  refine ⟨by decide, fun _ => ⟨_, m_lays, ?_⟩, fun z => absurd z (by decide)⟩
  intro N3 l3
  obtain ⟨r1, r2, r3⟩ := RM_D hw (by omega) hD l3
  refine ⟨_, m_fresh r1 (WT_D hw), ?_⟩
  rintro N4 ⟨s1, -, f4⟩
  intro N5 g5 N6 g6 N7 g7 N8 g8
  have e8 : ∀ c, c ≠ 1 → c ≠ 26 → c ≠ 30 → c ≠ 31 → c ≠ 34 → N8 c = N3 c := fun c h1 h2 h3 h4 h5 => by rw [g8, upr_eq, if_neg h1, g7, upr_eq, if_neg h4, g6, upr_eq, if_neg h3, g5, upr_eq, if_neg h2, f4.1 c h1 h5]
  have e34 : N8 34 = N4 34 := by rw [g8, upr_eq, if_neg (by omega), g7, upr_eq, if_neg (by omega), g6, upr_eq, if_neg (by omega), g5, upr_eq, if_neg (by omega)]
  have e26 : N8 26 0 = 0 := by rw [g8, upr_eq, if_neg (by omega), g7, upr_eq, if_neg (by omega), g6, upr_eq, if_neg (by omega), g5, upr_eq, if_pos rfl, up1_eq, if_pos rfl]
  have e30 : N8 30 0 = -1 := by rw [g8, upr_eq, if_neg (by omega), g7, upr_eq, if_neg (by omega), g6, upr_eq, if_pos rfl, up1_eq, if_pos rfl]
  have e31 : N8 31 0 = 0 := by rw [g8, upr_eq, if_neg (by omega), g7, upr_eq, if_pos rfl, up1_eq, if_pos rfl]
  have e150 : N8 1 50 = 0 ∧ N8 1 1 = 0 := by
    refine ⟨by rw [g8, upr_eq, if_pos rfl, up1_eq, if_pos rfl], ?_⟩
    rw [g8, upr_eq, if_pos rfl, up1_eq, if_neg (by omega), g7, upr_eq, if_neg (by omega), g6, upr_eq, if_neg (by omega), g5, upr_eq, if_neg (by omega), f4.2 1 (fun z => z), l3.2.2.2.2.2.2 1 (fun z => z)]
    exact a.2.1
  have fin : ∀ N9 : Mm, (∀ c, c ≠ 38 → N9 c = N8 c) → (∀ i, i < 4 → N9 38 i = 0) → AtM D N N9 := by
    intro N9 e h
    have e9 : ∀ c, 3 ≤ c → c ≤ 13 → N9 c = N3 c := fun c h1 h2 => (e c (by omega)).trans (e8 c (by omega) (by omega) (by omega) (by omega) (by omega))
    refine ⟨r1.fr (e9 3 (by omega) (by omega)) (fun c h1 h2 => e9 c (by omega) h2), fun q hq => by rw [e9 4 (by omega) (by omega)]; exact r2 q hq, fun i => ?_, fun j hj => ?_, by rw [e 26 (by omega)]; exact e26, by rw [e 30 (by omega)]; exact e30, by rw [e 31 (by omega)]; exact e31, by rw [e 1 (by omega)]; exact e150.1, by rw [e 1 (by omega)]; exact e150.2, h⟩
    · rw [← r3 i]
      unfold st0
      rw [e9 3 (by omega) (by omega), e9 6 (by omega) (by omega), e9 7 (by omega) (by omega)]
    · rw [e 34 (by omega), e34, s1 j hj]; exact r3 j
  have key : ∀ i, i ≤ 4 → ∀ N9 : Mm, (∀ c, c ≠ 38 → N9 c = N8 c) → (∀ j, j < i → N9 38 j = 0) → K NM RRM 53 [(0, vr 1), (1, vi (i : Int))] [] N9 := by
    refine up_ind ?_ ?_
    · intro N9 e h
      exact w_Mod_town_53 hK _ N9 ⟨by decide, fun _ => ⟨rfl, fin N9 e h⟩, fun z => absurd (by decide) z⟩
    · intro i hi ih N9 e h
      refine w_Mod_town_53 hK _ N9 ⟨by omega, fun z => by omega, fun _ => ⟨by omega, fun N10 g9 => ?_⟩⟩
      rw [Int.toNat_natCast] at g9
      rw [show (i : Int) + 1 = ((i + 1 : Nat) : Int) by omega]
      refine ih N10 (fun c hc => by rw [g9, upr_eq, if_neg hc]; exact e c hc) (fun j hj => ?_)
      rw [g9, upr_eq, if_pos rfl, up1_eq]
      by_cases e2 : j = i
      · rw [if_pos e2]
      · rw [if_neg e2]; exact h j (by omega)
  exact key 0 (by omega) N8 (fun c _ => rfl) (fun j hj => absurd hj (Nat.not_lt_zero _))
theorem SimP_0 {M N : Mm} (h1 : M 2 1 = 0) (h2 : N 1 1 = 0) : SimP M N := ⟨0, h1, h2, by omega, fun i hi => absurd hi (Nat.not_lt_zero _)⟩
/-- a text that failed -/
theorem Sim.fail {t : TT} {tb B : Nat} {M N M' N' : Mm} (h : Sim t tb B M N) (e : FrC (fun c => c = 2 ∨ (22 - tb ≤ c ∧ c ≤ 22 - tb + 13) ∨ (32 ≤ c ∧ c ≤ 35)) M M') (e8 : M' (22 - tb + 8) 0 = M (22 - tb + 8) 0 ∧ M' (22 - tb + 11) 0 = M (22 - tb + 11) 0) (f : FrM (fun c => 3 ≤ c ∧ c ≤ 15) (fun k => qT k ∨ k = 1 ∨ k = 3 ∨ k = 0) N N') (fl : ∀ c, 3 ≤ c → c ≤ 15 → ∀ k, k < loB c → N' c k = N c k) (hP' : SimP M' N') : Sim t tb B M' N' := by
  obtain ⟨hW, hT, hS, hN, hP, hY, hH, hU, hM⟩ := h
  have hn := hW.1
  obtain ⟨htb, t1, t2, t3, t4, t5, t6⟩ := hT
  have e1 : M' 1 = M 1 := e 1 (by omega)
  have e59 : M' 59 = M 59 := e 59 (by omega)
  have f34 : N' 34 = N 34 := f.1 34 (by omega) (by omega)
  refine ⟨hW, ⟨htb, by rw [e1]; exact t1, by rw [e1]; exact t2, t3.fr (fun i hi _ => e _ (by omega)), t4.fr2 hn hW.2.2.2.1 (fun k hk => fl 3 (by omega) (by omega) k hk) (fun c h1 h2 k hk => fl c (by omega) (by omega) k (by unfold loB; rw [if_neg (by omega), if_pos (by omega)]; exact hk)) (fun k hk => fl 10 (by omega) (by omega) k hk) (fun k hk => fl 11 (by omega) (by omega) k hk) (fun k hk => fl 12 (by omega) (by omega) k hk) (fun k hk => fl 13 (by omega) (by omega) k hk), fun q hq => ?_, ?_⟩, ?_, ⟨(hN.1.fr (fun i hi => e _ (by omega))).cg hn (fun i _ => by rw [f34]), hN.2.cg hn (fun i _ => by rw [f34])⟩, hP', hY.fr (fun i hi => e _ (by omega)) (fun c h1 h2 => f.1 c (by omega) (by omega)), hH.fr (e 41 (by omega)) (e 51 (by omega)) (e 52 (by omega)) (fun c h1 h2 => f.1 c (by omega) (by omega)), hU.fr (Nat.le_refl _) (by rw [e1]) (by rw [e1]) (fun c h1 h2 => e c (by omega)) (f.2 50 (by show ¬ (qT 50 ∨ _); omega)) (f.1 37 (by omega) (by omega)), hM.fr (Nat.le_refl _) e59 (fun c h1 h2 => e c (by omega)) (fun c h1 h2 => f.1 c (by omega) (by omega)) (f.1 36 (by omega) (by omega)) (f.1 38 (by omega) (by omega))⟩
  · rw [e (tb + 1) (by omega), fl 4 (by omega) (by omega) q (by show q < 7; omega)]
    exact t5 q hq
  · rcases htb with rfl | rfl
    · rw [e 12 (by omega), e 15 (by omega)]
      exact ⟨t6.1, t6.2.1, e8.1.trans t6.2.2.1, e8.2.trans t6.2.2.2⟩
    · rw [e 26 (by omega), e 29 (by omega)]
      exact ⟨e8.1.trans t6.1, e8.2.trans t6.2.1, t6.2.2.1, t6.2.2.2⟩
  · have es : ∀ i, st0 (tn t) N' i = st0 (tn t) N i := by
      intro i
      unfold st0
      rw [fl 3 (by omega) (by omega) 1 (by decide)]
      by_cases c1 : i = 1
      · rw [if_pos c1, if_pos c1]
      · rw [if_neg c1, if_neg c1]
        by_cases c2 : 5 ≤ i ∧ i < 5 + tn t
        · rw [if_pos c2, if_pos c2]
        · rw [if_neg c2, if_neg c2]
          by_cases c3 : 12 ≤ i ∧ i < 12 + tn t
          · rw [if_pos c3, if_pos c3, fl 6 (by omega) (by omega) _ (by show i - 12 < 7; omega)]
          · rw [if_neg c3, if_neg c3]
            by_cases c4 : 19 ≤ i ∧ i < 19 + tn t
            · rw [if_pos c4, if_pos c4, fl 7 (by omega) (by omega) _ (by show i - 19 < 7; omega)]
            · rw [if_neg c4, if_neg c4]
    exact ⟨(hS.1.fr (fun i hi => e _ (by omega))).cg hn (fun i _ => es i), hS.2.cg hn (fun i _ => es i)⟩
theorem rdTown_w {tx : TX} : ∀ k D p D', WD tx D → p ≤ tx.2 → rdTown tx k D p = .inr D' → WD tx D'
  | 0, D, p, D', hw, _, h => by rw [rdTown] at h; cases h; exact hw
  | k + 1, D, p, D', hw, hp, h => by
    rw [rdTown] at h
    split at h
    · cases h; exact hw
    · obtain ⟨x, hx, h⟩ := bnd_inr h
      have wx := rdL_w hw hp hx
      split at h
      · exact rdTown_w k _ _ _ wx.1 (te_le wx.2.2).2 h
      · cases h
theorem op_town {t : TT} {tb B : Nat} {M N : Mm} (h : Sim t tb B M N) : Op S_Main_town S_Mod_town B M N := by
  obtain ⟨hWt, hT, hS, hN, hP, hY, hH, hU, hM⟩ := id h
  have htb := hT.1
  obtain ⟨len, p1, p2, p3, p4⟩ := hP
  have hW : WX (M 3, len) := ⟨p3, fun i hi => (p4 i hi).2⟩
  have ht : ∀ j, j < (M 3, len).2 → N 2 j = (M 3, len).1 j := fun j hj => (p4 j hj).1.symm
  cases hR : rdTown (M 3, len) 1000 D0 0 with
  | inl f =>
    refine ⟨_, _, _, c_town_l hT p1 hW hR, m_town_l hW ht p2 hR, ?_⟩
    rintro M' N' ⟨a1, a2, a3⟩ ⟨b1, b2, b3⟩
    exact ⟨t, tb, (h.fail (a2.wk (fun c hc => by omega)) a3 b2 b3 (SimP_0 a1 b1)).mono (Nat.le_succ _)⟩
  | inr D =>
    have hw : WD (M 3, len) D := rdTown_w 1000 D0 0 D (WD0 _) (by omega) hR
    refine ⟨_, _, _, c_town_r hT p1 hW hR, m_town_r hW ht p2 hR, ?_⟩
    rintro M' N' ⟨a1, a2, a3, a4, a5, a6, a7⟩ ⟨b1, b2, b3, b4, b5, b6, b7, b8, b9, b10⟩
    have hb := (at_tw htb).2
    obtain ⟨-, t1, t2, t3, t4, t5, t6⟩ := hT
    have wf := WF_D hw
    have hn : dn D ≤ 7 := hw.1
    refine ⟨tD D, 22 - tb, WT_D hw, ⟨by omega, by rw [a1.1]; omega, by rw [a1.2.1]; omega, RT_D hW hb hw a2, b1, fun q hq => ⟨dnm D q, (hw.2.1 q hq).1, (a2.2.1 q hq).1, b2 q hq⟩, ?_⟩, ⟨a3.cg hn (fun i _ => b3 i), wf.cg hn (fun i _ => b3 i)⟩, ⟨a4.cg hn b4, (wf.mono (Nat.zero_le _)).cg hn b4⟩, SimP_0 a1.2.2.2.2 b9, ⟨0, a5.1, b5, by omega, fun i hi => absurd hi (Nat.not_lt_zero _)⟩, ⟨⟨by rw [a5.2.2, b6], by rw [a5.2.2]; decide, by rw [a5.2.2]; decide⟩, 0, a5.2.1, b7, by omega, fun i hi => absurd hi (Nat.not_lt_zero _)⟩, ?_, fun i hi => ⟨by rw [a6 i hi, b10 i hi], Or.inl (b10 i hi), fun z => by rw [b10 i hi] at z; cases z⟩⟩
    · have d8 := a2.2.2.2.2.2.1
      have d11 := a2.2.2.2.2.2.2
      rcases htb with rfl | rfl
      · rw [a7 12 (by omega), a7 15 (by omega)]
        exact ⟨t6.1, t6.2.1, d8, d11⟩
      · rw [a7 26 (by omega), a7 29 (by omega)]
        exact ⟨d8, d11, t6.2.2.1, t6.2.2.2⟩
    · obtain ⟨nx, d, u1, u2, u3, u4, u5, u6⟩ := hU
      exact ⟨nx, 0, by rw [a1.2.2.2.1]; exact u1, a1.2.2.1, b8, u4, by omega, fun i hi => absurd hi (Nat.not_lt_zero _)⟩
