theorem m_shifts {c l k : Nat} {N : Mm} (hc : At shM NM c (.inr (0, l))) (hl : l ≤ 2000) (h2 : 2 * k ≤ l) (h1 : c ≠ 1) : S_Mod_shifts c l (k : Int) N (fun N' => (∀ j, j < k → N' c j = N c (k + j)) ∧ FrM (fun q => q = c) (fun _ => False) N N') := by
  refine e_Mod_shifts c l _ N fun K hK => w_Mod_shifts_0 hK c l hc (by omega) _ N ?_
  have key : ∀ i, i ≤ k → ∀ N1 : Mm, (∀ j, j < i → N1 c j = N c (k + j)) → (∀ j, i ≤ j → N1 c j = N c j) → FrM (fun q => q = c) (fun _ => False) N N1 → K NM RRM 2 [(0, vr c), (1, vi (k : Int)), (2, vi (i : Int))] [] N1 := by
    refine up_ind ?_ ?_
    · intro N1 a b f
      exact w_Mod_shifts_2 hK c l hc (by omega) _ _ N1 ⟨by omega, by omega, fun _ => ⟨a, f⟩, fun z => absurd (Int.le_refl _) z⟩
    · intro i hi ih N1 a b f
      refine w_Mod_shifts_2 hK c l hc (by omega) _ _ N1 ⟨by omega, by omega, fun z => by omega, fun _ => ⟨by omega, by omega, fun N2 g2 => ?_⟩⟩
      rw [Int.toNat_natCast, show ((k : Int) + (i : Int)).toNat = k + i by omega, b (k + i) (by omega)] at g2
      rw [show (i : Int) + 1 = ((i + 1 : Nat) : Int) by omega]
      refine ih N2 (fun j hj => ?_) (fun j hj => ?_) (f.tr (FrM.up' g2 rfl h1))
      · rw [g2, upr_eq, if_pos rfl, up1_eq]
        by_cases e : j = i
        · rw [if_pos e, e]
        · rw [if_neg e]; exact a j (by omega)
      · rw [g2, upr_eq, if_pos rfl, up1_eq, if_neg (by omega)]; exact b j (by omega)
  exact key 0 (by omega) N (fun j hj => absurd hj (Nat.not_lt_zero _)) (fun j _ => rfl) FrM.rf
/-- laid: what was told anew lies where it is read -/
def LdM (N N' : Mm) : Prop := (∀ j, j < 4 → N' 3 j = N 3 (4 + j)) ∧ (∀ c, 4 ≤ c → c ≤ 9 → ∀ j, j < 7 → N' c j = N c (7 + j)) ∧ (∀ j, j < 12 → N' 10 j = N 10 (12 + j)) ∧ (∀ j, j < 1000 → N' 13 j = N 13 (1000 + j)) ∧ (∀ j, j < 2 → (N' 11 j = N 11 (2 + j) - 1000 ∧ N' 12 j = N 12 (2 + j) - 1000)) ∧ FrM (fun c => 3 ≤ c ∧ c ≤ 13) (fun _ => False) N N'
theorem m_lays {N : Mm} : S_Mod_lays N (LdM N) := by
  refine e_Mod_lays N fun K hK => w_Mod_lays_0 hK N ⟨_, m_shifts (k := 4) atM_3 (by omega) (by omega) (by omega), ?_⟩
  rintro N1 ⟨a1, f1⟩
  have key : ∀ i, i ≤ 7 → ∀ N2 : Mm, (∀ j, j < i → N2 4 j = N 4 (7 + j)) → (∀ j, i ≤ j → N2 4 j = N 4 j) → (∀ c, c ≠ 4 → N2 c = N1 c) → K NM RRM 10 [(0, vr 1), (1, vi (i : Int))] [] N2 := by
    refine up_ind ?_ ?_
    · intro N2 a b f
      refine w_Mod_lays_10 hK _ N2 ⟨by decide, fun _ => ?_, fun z => absurd (by decide) z⟩
      refine ⟨_, m_shifts (k := 7) atM_5 (by omega) (by omega) (by omega), ?_⟩
      rintro N5 ⟨a5, f5⟩
      refine ⟨_, m_shifts (k := 7) atM_6 (by omega) (by omega) (by omega), ?_⟩
      rintro N6 ⟨a6, f6⟩
      refine ⟨_, m_shifts (k := 7) atM_7 (by omega) (by omega) (by omega), ?_⟩
      rintro N7 ⟨a7, f7⟩
      refine ⟨_, m_shifts (k := 7) atM_8 (by omega) (by omega) (by omega), ?_⟩
      rintro N8 ⟨a8, f8⟩
      refine ⟨_, m_shifts (k := 7) atM_9 (by omega) (by omega) (by omega), ?_⟩
      rintro N9 ⟨a9, f9⟩
      refine ⟨_, m_shifts (k := 12) atM_10 (by omega) (by omega) (by omega), ?_⟩
      rintro N10 ⟨a10, f10⟩
      refine ⟨_, m_shifts (k := 1000) atM_13 (by omega) (by omega) (by omega), ?_⟩
      rintro N13 ⟨a13, f13⟩
      have n2 : ∀ c, c ≠ 1 → c ≠ 3 → c ≠ 4 → N2 c = N c := fun c h1 h3 h4 => (f c h4).trans (f1.1 c h1 h3)
      have n5 : ∀ c, c ≠ 1 → c ≠ 3 → c ≠ 4 → c ≠ 5 → N5 c = N c := fun c h1 h3 h4 h5 => (f5.1 c h1 h5).trans (n2 c h1 h3 h4)
      have n6 : ∀ c, c ≠ 1 → c ≠ 3 → c ≠ 4 → c ≠ 5 → c ≠ 6 → N6 c = N c := fun c h1 h3 h4 h5 h6 => (f6.1 c h1 h6).trans (n5 c h1 h3 h4 h5)
      have n7 : ∀ c, c ≠ 1 → c ≠ 3 → c ≠ 4 → c ≠ 5 → c ≠ 6 → c ≠ 7 → N7 c = N c := fun c h1 h3 h4 h5 h6 h7 => (f7.1 c h1 h7).trans (n6 c h1 h3 h4 h5 h6)
      have n8 : ∀ c, c ≠ 1 → ¬ (3 ≤ c ∧ c ≤ 8) → N8 c = N c := fun c h1 h2 => (f8.1 c h1 (by omega)).trans (n7 c h1 (by omega) (by omega) (by omega) (by omega) (by omega))
      have n9 : ∀ c, c ≠ 1 → ¬ (3 ≤ c ∧ c ≤ 9) → N9 c = N c := fun c h1 h2 => (f9.1 c h1 (by omega)).trans (n8 c h1 (by omega))
      have n10 : ∀ c, c ≠ 1 → ¬ (3 ≤ c ∧ c ≤ 10) → N10 c = N c := fun c h1 h2 => (f10.1 c h1 (by omega)).trans (n9 c h1 (by omega))
      have n13 : ∀ c, c ≠ 1 → ¬ ((3 ≤ c ∧ c ≤ 10) ∨ c = 13) → N13 c = N c := fun c h1 h2 => (f13.1 c h1 (by omega)).trans (n10 c h1 (by omega))
      have e1 : ∀ k, N13 1 k = N 1 k := fun k => by rw [f13.2 k (fun z => z), f10.2 k (fun z => z), f9.2 k (fun z => z), f8.2 k (fun z => z), f7.2 k (fun z => z), f6.2 k (fun z => z), f5.2 k (fun z => z), f 1 (by omega), f1.2 k (fun z => z)]
      have c3 : N13 3 = N1 3 := by rw [f13.1 3 (by omega) (by omega), f10.1 3 (by omega) (by omega), f9.1 3 (by omega) (by omega), f8.1 3 (by omega) (by omega), f7.1 3 (by omega) (by omega), f6.1 3 (by omega) (by omega), f5.1 3 (by omega) (by omega), f 3 (by omega)]
      have c4 : N13 4 = N2 4 := by rw [f13.1 4 (by omega) (by omega), f10.1 4 (by omega) (by omega), f9.1 4 (by omega) (by omega), f8.1 4 (by omega) (by omega), f7.1 4 (by omega) (by omega), f6.1 4 (by omega) (by omega), f5.1 4 (by omega) (by omega)]
      have c5 : N13 5 = N5 5 := by rw [f13.1 5 (by omega) (by omega), f10.1 5 (by omega) (by omega), f9.1 5 (by omega) (by omega), f8.1 5 (by omega) (by omega), f7.1 5 (by omega) (by omega), f6.1 5 (by omega) (by omega)]
      have c6 : N13 6 = N6 6 := by rw [f13.1 6 (by omega) (by omega), f10.1 6 (by omega) (by omega), f9.1 6 (by omega) (by omega), f8.1 6 (by omega) (by omega), f7.1 6 (by omega) (by omega)]
      have c7 : N13 7 = N7 7 := by rw [f13.1 7 (by omega) (by omega), f10.1 7 (by omega) (by omega), f9.1 7 (by omega) (by omega), f8.1 7 (by omega) (by omega)]
      have c8 : N13 8 = N8 8 := by rw [f13.1 8 (by omega) (by omega), f10.1 8 (by omega) (by omega), f9.1 8 (by omega) (by omega)]
      have c9 : N13 9 = N9 9 := by rw [f13.1 9 (by omega) (by omega), f10.1 9 (by omega) (by omega)]
      have c10 : N13 10 = N10 10 := f13.1 10 (by omega) (by omega)
      have all : ∀ N' : Mm, (∀ c, c ≠ 11 → c ≠ 12 → N' c = N13 c) → (∀ j, j < 2 → (N' 11 j = N 11 (2 + j) - 1000 ∧ N' 12 j = N 12 (2 + j) - 1000)) → LdM N N' := by
        intro N' q h
        refine ⟨fun j hj => by rw [q 3 (by omega) (by omega), c3]; exact a1 j hj, fun c h4 h9 j hj => ?_, fun j hj => by rw [q 10 (by omega) (by omega), c10, a10 j hj, n9 10 (by omega) (by omega)], fun j hj => by rw [q 13 (by omega) (by omega), a13 j hj, n10 13 (by omega) (by omega)], h, fun c h1 h2 => (q c (by omega) (by omega)).trans (n13 c h1 (by omega)), fun k _ => by rw [q 1 (by omega) (by omega)]; exact e1 k⟩
        rw [q c (by omega) (by omega)]
        have : c = 4 ∨ c = 5 ∨ c = 6 ∨ c = 7 ∨ c = 8 ∨ c = 9 := by omega
        rcases this with rfl | rfl | rfl | rfl | rfl | rfl
        · rw [c4]; exact a j hj
        · rw [c5, a5 j hj, n2 5 (by omega) (by omega) (by omega)]
        · rw [c6, a6 j hj, n5 6 (by omega) (by omega) (by omega) (by omega)]
        · rw [c7, a7 j hj, n6 7 (by omega) (by omega) (by omega) (by omega) (by omega)]
        · rw [c8, a8 j hj, n7 8 (by omega) (by omega) (by omega) (by omega) (by omega) (by omega)]
        · rw [c9, a9 j hj, n8 9 (by omega) (by omega)]
      have e11 : N13 11 = N 11 := n13 11 (by omega) (by omega)
      have e12 : N13 12 = N 12 := n13 12 (by omega) (by omega)
      refine w_Mod_lays_103 hK _ N13 ⟨by decide, fun z => absurd z (by decide), fun _ => ⟨by decide, by decide, fun L1 g1 => ⟨by decide, by decide, fun L2 g2 => ?_⟩⟩⟩
      refine w_Mod_lays_103 hK _ L2 ⟨by decide, fun z => absurd z (by decide), fun _ => ⟨by decide, by decide, fun L3 g3 => ⟨by decide, by decide, fun L4 g4 => ?_⟩⟩⟩
      refine w_Mod_lays_103 hK _ L4 ⟨by decide, fun _ => ?_, fun z => absurd (by decide) z⟩
      refine all L4 (fun c h1 h2 => by rw [g4, upr_eq, if_neg h2, g3, upr_eq, if_neg h1, g2, upr_eq, if_neg h2, g1, upr_eq, if_neg h1]) ?_
      have d1 : L1 11 = up1 (N 11) 0 (N 11 2 - 1000) := by rw [g1, upr_eq, if_pos rfl, e11]; rfl
      have d2 : L2 12 = up1 (N 12) 0 (N 12 2 - 1000) := by
        have : L1 12 = N 12 := by rw [g1, upr_eq, if_neg (by omega), e12]
        rw [g2, upr_eq, if_pos rfl, this]; rfl
      have d3 : L3 11 = up1 (L1 11) 1 (N 11 3 - 1000) := by
        have : L2 11 = L1 11 := by rw [g2, upr_eq, if_neg (by omega)]
        rw [g3, upr_eq, if_pos rfl, this, d1]; rfl
      have d4 : L4 12 = up1 (L2 12) 1 (N 12 3 - 1000) := by
        have : L3 12 = L2 12 := by rw [g3, upr_eq, if_neg (by omega)]
        rw [g4, upr_eq, if_pos rfl, this, d2]; rfl
      have d5 : L4 11 = L3 11 := by rw [g4, upr_eq, if_neg (by omega)]
      intro j hj
      rw [d5, d3, d4, d1, d2]
      have : j = 0 ∨ j = 1 := by omega
      rcases this with rfl | rfl <;> exact ⟨rfl, rfl⟩
    · intro i hi ih N2 a b f
      refine w_Mod_lays_10 hK _ N2 ⟨by omega, fun z => by omega, fun _ => ⟨by omega, by omega, fun N3 g3 => ?_⟩⟩
      rw [Int.toNat_natCast, show ((7 : Int) + (i : Int)).toNat = 7 + i by omega, b (7 + i) (by omega)] at g3
      rw [show (i : Int) + 1 = ((i + 1 : Nat) : Int) by omega]
      refine ih N3 (fun j hj => ?_) (fun j hj => ?_) (fun c hc => by rw [g3, upr_eq, if_neg hc]; exact f c hc)
      · rw [g3, upr_eq, if_pos rfl, up1_eq]
        by_cases e : j = i
        · rw [if_pos e, e]
        · rw [if_neg e]; exact a j (by omega)
      · rw [g3, upr_eq, if_pos rfl, up1_eq, if_neg (by omega)]; exact b j (by omega)
  exact key 0 (by omega) N1 (fun j hj => absurd hj (Nat.not_lt_zero _)) (fun j _ => by rw [f1.1 4 (by omega) (by omega)]) (fun c _ => rfl)
theorem RM_D {tx : TX} {D : DT} {ci : Nat} {N N' : Mm} (hw : WD tx D) (hci : ci ≤ 2000) (h : DM D ci N) (l : LdM N N') : RM (tD D) N' ∧ (∀ q, q < dn D → N' 4 q = enc 27 (dnm D q)) ∧ (∀ i, st0 (dn D) N' i = sD D i) := by
  obtain ⟨h1, h2, h3, h4, h5⟩ := h
  obtain ⟨w1, w2, w3, w4, w5, w6, w7⟩ := hw
  obtain ⟨l1, l2, l3, l4, l5, l6⟩ := l
  have e11 := l5 0 (by omega)
  have e12 := l5 1 (by omega)
  have hq : ∀ q, q < dn D → (N' 4 q = enc 27 (dnm D q) ∧ N' 5 q = dk D q ∧ N' 6 q = dth D q ∧ N' 7 q = dwe D q ∧ N' 8 q = din D q ∧ N' 9 q = (dsh D q : Int)) := fun q hq => by
    rw [l2 4 (by omega) (by omega) q (by omega), l2 5 (by omega) (by omega) q (by omega), l2 6 (by omega) (by omega) q (by omega), l2 7 (by omega) (by omega) q (by omega), l2 8 (by omega) (by omega) q (by omega), l2 9 (by omega) (by omega) q (by omega)]
    exact h2 q hq
  have ng : N' 3 1 = (dga D).1 := (l1 1 (by omega)).trans h1.2.1
  refine ⟨⟨⟨(l1 0 (by omega)).trans h1.1, (l1 2 (by omega)).trans h1.2.2.1, ?_⟩, fun q hq' => ⟨(hq q hq').2.1, (hq q hq').2.2.2.2.1, (hq q hq').2.2.2.2.2⟩, ?_, ?_, ?_⟩, fun q hq' => (hq q hq').1, fun i => ?_⟩
  · have n3 : N' 3 3 = ((drn D).1 : Int) := (l1 3 (by omega)).trans h1.2.2.2.1
    rw [n3]
    by_cases e : (drn D).1 = 0
    · left
      refine ⟨by omega, by rw [tD_nr, if_pos e], by rw [tD_rn, if_pos e]⟩
    · right
      rw [tD_nr, if_neg e]
      refine ⟨rfl, fun i hi => ?_⟩
      rw [l3 i (by omega), tD_rn, if_neg e]
      exact h3 i hi
  · have r1 : rng (N' 11 0) ∧ rng (N' 12 0) := by
      rw [e11.1, e11.2]
      cases c : dlp D with
      | none => rw [(h4.1 c).1, (h4.1 c).2]; decide
      | some x =>
        obtain ⟨a, b1, b2, b3, b4, b5, b6⟩ := h4.2 x c
        rw [b1, b2]; omega
    have r2 : rng (N' 11 1) ∧ rng (N' 12 1) := by
      rw [e12.1, e12.2]
      cases c : dlq D with
      | none => rw [(h5.1 c).1, (h5.1 c).2]; decide
      | some x =>
        obtain ⟨a, b1, b2, b3, b4, b5, b6⟩ := h5.2 x c
        rw [b1, b2]; omega
    exact ⟨r1.1, r1.2, r2.1, r2.2⟩
  · cases c : dlp D with
    | none =>
      left
      rw [e11.1, e11.2, (h4.1 c).1, (h4.1 c).2]
      exact ⟨by decide, tP_n c⟩
    | some x =>
      right
      obtain ⟨a, b1, b2, b3, b4, b5, b6⟩ := h4.2 x c
      obtain ⟨x1, x2⟩ := w6 x c
      rw [tP_s c]
      refine ⟨by rw [e11.1, e11.2, b1, b2]; omega, LM0_of (a := a - 1000) x1 x2 (by rw [e11.1, b1]; omega) (by rw [e11.2, b2]; omega) (by omega) (fun j hj => ?_)⟩
      rw [l4 _ (by omega), show 1000 + (a - 1000 + j) = a + j by omega]
      exact b6 j hj
  · cases c : dlq D with
    | none =>
      left
      rw [e12.1, e12.2, (h5.1 c).1, (h5.1 c).2]
      exact ⟨by decide, tQ_n c⟩
    | some x =>
      right
      obtain ⟨a, b1, b2, b3, b4, b5, b6⟩ := h5.2 x c
      obtain ⟨x1, x2⟩ := w7 x c
      rw [tQ_s c]
      refine ⟨by rw [e12.1, e12.2, b1, b2]; omega, LM1_of (a := a - 1000) x1 x2 (by rw [e12.1, b1]; omega) (by rw [e12.2, b2]; omega) (by omega) (fun j hj => ?_)⟩
      rw [l4 _ (by omega), show 1000 + (a - 1000 + j) = a + j by omega]
      exact b6 j hj
  · unfold st0 sD
    rw [ng]
    by_cases c1 : i = 1
    · rw [if_pos c1, if_pos c1]
    · rw [if_neg c1, if_neg c1]
      by_cases c2 : 5 ≤ i ∧ i < 5 + dn D
      · rw [if_pos c2, if_pos c2]
      · rw [if_neg c2, if_neg c2]
        by_cases c3 : 12 ≤ i ∧ i < 12 + dn D
        · rw [if_pos c3, if_pos c3, (hq (i - 12) (by omega)).2.2.1]
        · rw [if_neg c3, if_neg c3]
          by_cases c4 : 19 ≤ i ∧ i < 19 + dn D
          · rw [if_pos c4, if_pos c4, (hq (i - 19) (by omega)).2.2.2.1]
          · rw [if_neg c4, if_neg c4]
