/-- the town that was told -/
def tD (D : DT) : TT := (dn D, dk D, din D, (fun h => (dsh D h : Int)), (if (drn D).1 = 0 then 1 else (drn D).1), (fun i => if (drn D).1 = 0 then 1 else (drn D).2 i), (dpr D).1,
  (match dlp D with
    | none => fun w d g => if w ≤ g then d / 2 else d
    | some x => fun w d g => x.2.2.2.2 (env3 w d g)),
  (match dlq D with
    | none => fun _ _ _ bl _ => bl
    | some x => fun w d g bl wl => x.2.2.2.2 (env5 w d g bl wl)))
theorem tP_n {D : DT} (h : dlp D = none) : tP (tD D) = fun w d g => if w ≤ g then d / 2 else d := by unfold tP tD; rw [h]
theorem tP_s {D : DT} {x : Nat × PRS} (h : dlp D = some x) : tP (tD D) = fun w d g => x.2.2.2.2 (env3 w d g) := by unfold tP tD; rw [h]
theorem tQ_n {D : DT} (h : dlq D = none) : tQ (tD D) = fun _ _ _ bl _ => bl := by unfold tQ tD; rw [h]
theorem tQ_s {D : DT} {x : Nat × PRS} (h : dlq D = some x) : tQ (tD D) = fun w d g bl wl => x.2.2.2.2 (env5 w d g bl wl) := by unfold tQ tD; rw [h]
theorem tD_nr (D : DT) : tnr (tD D) = if (drn D).1 = 0 then 1 else (drn D).1 := rfl
theorem tD_rn (D : DT) (i : Nat) : train (tD D) i = if (drn D).1 = 0 then 1 else (drn D).2 i := rfl
theorem WT_D {tx : TX} {D : DT} (h : WD tx D) : WT (tD D) := by
  obtain ⟨w1, w2, w3, w4, w5, w6, w7⟩ := h
  refine ⟨w1, fun q hq => ?_, ?_, ?_, fun i hi => ?_, w4.1, w4.2⟩
  · obtain ⟨a1, a2, a3, a4, a5, a6⟩ := w2 q hq
    refine ⟨a2.1, a2.2, a5.1, a5.2, ?_, ?_⟩
    · show (0 : Int) ≤ (dsh D q : Int); omega
    · show (dsh D q : Int) < 128; omega
  · rw [tD_nr]; split <;> omega
  · rw [tD_nr]; split <;> omega
  · rw [tD_nr] at hi
    rw [tD_rn]
    by_cases e : (drn D).1 = 0
    · rw [if_pos e]; decide
    · rw [if_neg e] at hi
      rw [if_neg e]; exact w5.2 i hi
theorem RT_D {tx : TX} {D : DT} {b : Nat} {M : Mm} (hW : WX tx) (hb : At shC NN b (.inl 7)) (hw : WD tx D) (h : DC D b M) : RT (tD D) M b := by
  have hX := hW.1
  obtain ⟨h1, h2, h3, h4, h5, h6, h7⟩ := h
  obtain ⟨w1, w2, w3, w4, w5, w6, w7⟩ := hw
  have ha := at_t hb
  refine ⟨⟨h1.1, h1.2.2.1, ?_⟩, fun q hq => ?_, fun i hi => ?_, ?_, ?_⟩
  · rw [h1.2.2.2.1, tD_nr]
    split
    · rfl
    · rfl
  · obtain ⟨a1, a2, a3, a4, a5, a6⟩ := h2 q hq
    exact ⟨a2, a5, a6⟩
  · rw [tD_nr] at hi
    rw [tD_rn]
    by_cases e : (drn D).1 = 0
    · rw [if_pos e] at hi
      rw [if_pos e]
      obtain rfl : i = 0 := by omega
      exact h3.1 e
    · rw [if_neg e] at hi
      rw [if_neg e]; exact h3.2 i hi
  · cases c : dlp D with
    | none => exact Or.inl ⟨h4.1 c, tP_n c⟩
    | some x =>
      obtain ⟨a, e⟩ := h4.2 x c
      obtain ⟨x1, x2⟩ := w6 x c
      have gs := (qE_g (pPart_g (pr := false) 5) x.1 x1).1 x.2 x2
      have g1 := gs.2.2.2.2.1
      have g2 := gs.2.2.1
      have g3 := gs.2.1
      right
      rw [tP_s c, a]
      exact ⟨by omega, by omega, LC0_of hW ha.2.2.2.1 x1 x2 a e⟩
  · cases c : dlq D with
    | none => exact Or.inl ⟨h5.1 c, tQ_n c⟩
    | some x =>
      obtain ⟨a, e⟩ := h5.2 x c
      obtain ⟨x1, x2⟩ := w7 x c
      have gs := (qE_g (pPart_g (pr := true) 5) x.1 x1).1 x.2 x2
      have g1 := gs.2.2.2.2.1
      have g2 := gs.2.2.1
      have g3 := gs.2.1
      right
      rw [tQ_s c, a]
      exact ⟨by omega, by omega, LC_of hW ha.2.2.2.2 x1 x2 a e⟩
/-- the state as it was told -/
def sD (D : DT) : Nat → Int := fun i => if i = 1 then (dga D).1 else if 5 ≤ i ∧ i < 5 + dn D then ((i - 5 : Nat) : Int) else if 12 ≤ i ∧ i < 12 + dn D then dth D (i - 12) else if 19 ≤ i ∧ i < 19 + dn D then dwe D (i - 19) else 0
theorem sD_lo {D : DT} : sD D 0 = 0 ∧ sD D 1 = (dga D).1 ∧ sD D 2 = 0 ∧ sD D 3 = 0 ∧ sD D 4 = 0 := by
  refine ⟨?_, ?_, ?_, ?_, ?_⟩ <;> unfold sD
  · rw [if_neg (by omega), if_neg (by omega), if_neg (by omega), if_neg (by omega)]
  · rw [if_pos rfl]
  · rw [if_neg (by omega), if_neg (by omega), if_neg (by omega), if_neg (by omega)]
  · rw [if_neg (by omega), if_neg (by omega), if_neg (by omega), if_neg (by omega)]
  · rw [if_neg (by omega), if_neg (by omega), if_neg (by omega), if_neg (by omega)]
theorem sD_hi {D : DT} {h : Nat} (hn : dn D ≤ 7) (hh : h < dn D) : sD D (5 + h) = (h : Int) ∧ sD D (12 + h) = dth D h ∧ sD D (19 + h) = dwe D h ∧ sD D (26 + h) = 0 := by
  refine ⟨?_, ?_, ?_, ?_⟩ <;> unfold sD
  · rw [if_neg (by omega), if_pos (by omega)]; omega
  · rw [if_neg (by omega), if_neg (by omega), if_pos (by omega)]; congr 1; omega
  · rw [if_neg (by omega), if_neg (by omega), if_neg (by omega), if_pos (by omega)]; congr 1; omega
  · rw [if_neg (by omega), if_neg (by omega), if_neg (by omega), if_neg (by omega)]
theorem WF_D {tx : TX} {D : DT} (hw : WD tx D) : WF (dn D) 0 (sD D) := by
  obtain ⟨w1, w2, w3, w4, w5, w6, w7⟩ := hw
  obtain ⟨l0, l1, l2, l3, l4⟩ := sD_lo (D := D)
  refine ⟨by rw [l0]; omega, by rw [l1]; exact w3, by rw [l2]; omega, by rw [l4]; exact ⟨by decide, by decide, fun i z => by rw [show (0 : Int).toNat = 0 from rfl, Nat.zero_testBit] at z; cases z⟩, fun h hh => ?_, fun a b ha hb e => ?_⟩
  · obtain ⟨a1, a2, a3, a4⟩ := sD_hi w1 hh
    obtain ⟨b1, b2, b3, b4, b5, b6⟩ := w2 h hh
    rw [a1, a2, a3, a4]; omega
  · rw [(sD_hi w1 ha).1, (sD_hi w1 hb).1] at e; omega
theorem c_beginReading {len : Nat} {M : Mm} (h1 : M 2 1 = (len : Int)) (hW : WX (M 3, len)) : S_Tape_beginReading 2 M (fun M' => TpC (M 3, len) 0 M' ∧ M' 2 1 = 0 ∧ FrC (fun c => c = 2) M M') := by
  refine W_Tape_beginReading 2 atC_2 M ?_
  intro M1 g1 M2 g2 M3 g3 M4 g4
  have f4 : FrC (fun c => c = 2) M M4 := by
    have f1 : FrC (fun c => c = 2) M M1 := by rw [g1]; exact FrC.up rfl
    have f2 : FrC (fun c => c = 2) M1 M2 := by rw [g2]; exact FrC.up rfl
    have f3 : FrC (fun c => c = 2) M2 M3 := by rw [g3]; exact FrC.up rfl
    have f4 : FrC (fun c => c = 2) M3 M4 := by rw [g4]; exact FrC.up rfl
    exact ((f1.tr f2).tr f3).tr f4
  have e : M4 2 2 = (len : Int) ∧ M4 2 1 = 0 ∧ M4 2 4 = 0 := by
    rw [g4, upr_eq, if_pos rfl, g3, upr_eq, if_pos rfl, g2, upr_eq, if_pos rfl, g1, upr_eq, if_pos rfl]
    exact ⟨h1, rfl, rfl⟩
  refine ⟨_, c_advance (tx := (M 3, len)) (p := 0) hW (fun j _ => by rw [f4 3 (by omega)]) e.1 e.2.2 (by omega), ?_⟩
  rintro M5 ⟨a, b⟩
  exact ⟨a, by rw [b.2.1]; exact e.2.1, f4.tr b.1⟩
theorem c_SbeginAs {tx : TX} {D : DT} {b : Nat} {M : Mm} (hb : At shC NN b (.inl 7)) (hw : WD tx D) (h : DC D b M) : S_State_beginAs 36 b M (fun M' => RS (dn D) (sD D) M' 36 ∧ FrC (inS 36) M M') := by
  have hb4 := twn hb
  have hn := hw.1
  obtain ⟨h1, h2, h3, h4, h5, h6, h7⟩ := h
  refine e_State_beginAs 36 b M fun K hK => w_State_beginAs_0 hK 36 atC_36 b hb M ?_
  have key : ∀ k, k ≤ 7 → ∀ M1 : Mm, FrC (inS 36) M M1 → (∀ h, h < k → (M1 37 h = M (b + 3) h ∧ M1 38 h = M (b + 4) h ∧ M1 39 h = 0 ∧ M1 40 h = (h : Int))) → K NN RRC 2 [(0, vr 36), (1, vr b), (2, vi (k : Int))] [] M1 := by
    refine up_ind ?_ ?_
    · intro M1 f1 g
      refine w_State_beginAs_2 hK 36 atC_36 b hb _ M1 ⟨by decide, fun _ => ?_, fun z => absurd (by decide) z⟩
      intro M2 g2 M3 g3 M4 g4 M5 g5 M6 g6
      have eb : M2 b 10 = (dga D).1 := by rw [g2, upr_eq, if_neg (by omega), f1 b (by omega)]; exact h1.2.1
      have f6 : ∀ c, c ≠ 36 → M6 c = M1 c := fun c hc => by rw [g6, upr_eq, if_neg hc, g5, upr_eq, if_neg hc, g4, upr_eq, if_neg hc, g3, upr_eq, if_neg hc, g2, upr_eq, if_neg hc]
      have e36 : M6 36 4 = 0 ∧ M6 36 5 = (dga D).1 ∧ M6 36 6 = 0 ∧ M6 36 7 = 0 ∧ M6 36 8 = 0 := by
        rw [eb] at g3
        rw [g6, upr_eq, if_pos rfl, g5, upr_eq, if_pos rfl, g4, upr_eq, if_pos rfl, g3, upr_eq, if_pos rfl, g2, upr_eq, if_pos rfl]
        exact ⟨rfl, rfl, rfl, rfl, rfl⟩
      obtain ⟨l0, l1, l2, l3, l4⟩ := sD_lo (D := D)
      refine ⟨⟨by rw [l0, l1, l2, l3, l4]; exact ⟨e36.2.2.1, e36.2.1, e36.2.2.2.1, e36.2.2.2.2, e36.1⟩, fun h hh => ?_⟩, fun c hc => (f6 c (by omega)).trans (f1 c hc)⟩
      obtain ⟨a1, a2, a3, a4⟩ := sD_hi hn hh
      obtain ⟨b1, b2, b3, b4, b5, b6⟩ := h2 h hh
      obtain ⟨q1, q2, q3, q4⟩ := g h (by omega)
      rw [a1, a2, a3, a4, f6 40 (by omega), f6 37 (by omega), f6 38 (by omega), f6 39 (by omega), q1, q2, q3, q4]
      exact ⟨rfl, b3, b4, rfl⟩
    · intro k hk ih M1 f1 g
      refine w_State_beginAs_2 hK 36 atC_36 b hb _ M1 ⟨by omega, fun z => by omega, fun _ => ⟨by omega, by omega, fun M2 g2 => ⟨by omega, by omega, fun M3 g3 => ⟨by omega, fun M4 g4 => ⟨by omega, fun M5 g5 => ?_⟩⟩⟩⟩⟩
      rw [Int.toNat_natCast] at g2 g3 g4 g5
      have f5 : FrC (inS 36) M1 M5 := by
        have a1 : FrC (inS 36) M1 M2 := by rw [g2]; exact FrC.up (by omega)
        have a2 : FrC (inS 36) M2 M3 := by rw [g3]; exact FrC.up (by omega)
        have a3 : FrC (inS 36) M3 M4 := by rw [g4]; exact FrC.up (by omega)
        have a4 : FrC (inS 36) M4 M5 := by rw [g5]; exact FrC.up (by omega)
        exact ((a1.tr a2).tr a3).tr a4
      have e2 : M2 (b + 4) = M (b + 4) := by rw [g2, upr_eq, if_neg (by omega), f1 (b + 4) (by omega)]
      have e37 : M5 37 = up1 (M1 37) k (M (b + 3) k) := by rw [g5, upr_eq, if_neg (by omega), g4, upr_eq, if_neg (by omega), g3, upr_eq, if_neg (by omega), g2, upr_eq, if_pos rfl, f1 (b + 3) (by omega)]
      have e38 : M5 38 = up1 (M1 38) k (M (b + 4) k) := by rw [g5, upr_eq, if_neg (by omega), g4, upr_eq, if_neg (by omega), g3, upr_eq, if_pos rfl, e2, g2, upr_eq, if_neg (by omega)]
      have e39 : M5 39 = up1 (M1 39) k 0 := by rw [g5, upr_eq, if_neg (by omega), g4, upr_eq, if_pos rfl, g3, upr_eq, if_neg (by omega), g2, upr_eq, if_neg (by omega)]
      have e40 : M5 40 = up1 (M1 40) k (k : Int) := by rw [g5, upr_eq, if_pos rfl, g4, upr_eq, if_neg (by omega), g3, upr_eq, if_neg (by omega), g2, upr_eq, if_neg (by omega)]
      rw [show (k : Int) + 1 = ((k + 1 : Nat) : Int) by omega]
      refine ih M5 (f1.tr f5) (fun h hh => ?_)
      rw [e37, e38, e39, e40, up1_eq, up1_eq, up1_eq, up1_eq]
      by_cases e : h = k
      · subst e
        rw [if_pos rfl, if_pos rfl, if_pos rfl, if_pos rfl]; exact ⟨rfl, rfl, rfl, rfl⟩
      · rw [if_neg e, if_neg e, if_neg e, if_neg e]; exact g h (by omega)
  exact key 0 (by omega) M FrC.rf (fun h hh => absurd hh (Nat.not_lt_zero _))
theorem c_beginAs {n : Nat} {σ : Nat → Int} {M : Mm} (hn : n ≤ 7) (h : RS n σ M 36) : S_Standing_beginAs 41 36 M (fun M' => RS n σ M' 42 ∧ M' 47 3 = 0 ∧ M' 41 4 = 0 ∧ M' 41 5 = -1 ∧ FrC (fun c => 41 ≤ c ∧ c ≤ 52) M M') := by
  refine W_Standing_beginAs 41 atC_41 36 atC_36 M ⟨_, c_copyFrom atC_42 atC_36 (by omega), ?_⟩
  rintro M1 ⟨a, f1⟩
  intro M2 g2 M3 g3 M4 g4
  have e : ∀ c, c ≠ 47 → c ≠ 41 → M4 c = M1 c := fun c h1 h2 => by rw [g4, upr_eq, if_neg h2, g3, upr_eq, if_neg h2, g2, upr_eq, if_neg h1]
  have e41 : M4 41 4 = 0 ∧ M4 41 5 = -1 := by
    rw [g4, upr_eq, if_pos rfl, g3, upr_eq, if_pos rfl]
    exact ⟨rfl, rfl⟩
  have e47 : M4 47 3 = 0 := by
    rw [g4, upr_eq, if_neg (by omega), g3, upr_eq, if_neg (by omega), g2, upr_eq, if_pos rfl]
    rfl
  exact ⟨(a n σ hn h).fr (fun i hi => e _ (by omega) (by omega)), e47, e41.1, e41.2, fun c hc => (e c (by omega) (by omega)).trans (f1 c (by omega))⟩
