theorem sB_isG : ∀ i, i < 8 → isG (sB.getD i 0) = true := by decide
theorem c_indexOf {M : Mm} {x : Int} (hx : 0 ≤ x ∧ x ≤ 126) : S_JStr_indexOf_0 x M (fun r M' => M' = M ∧ rng r ∧ (r < 0 ↔ isG x = false)) := by
  have c1 : S_JStr_coder M (fun r M' => M' = M ∧ r = 0) := W_JStr_coder M ⟨fun z => absurd z (by decide), fun _ => ⟨rfl, rfl⟩⟩
  have c2 : S_JStr_isLatin1 M (fun r M' => M' = M ∧ r = 1) := W_JStr_isLatin1 M ⟨fun z => absurd z (by decide), fun _ => ⟨fun z => absurd rfl z, fun _ => ⟨rfl, rfl⟩⟩⟩
  have c3 : S_JStr_length M (fun r M' => M' = M ∧ r = 8) := W_JStr_length M ⟨_, c1, by
    rintro r M' ⟨rfl, rfl⟩
    exact ⟨rfl, by decide +kernel⟩⟩
  have c4 : S_JLat_canEncode x M (fun r M' => M' = M ∧ r = 1) := W_JLat_canEncode _ M ⟨by omega, fun z => by omega, fun _ => ⟨by omega, fun z => by omega, fun _ => ⟨rfl, rfl⟩⟩⟩
  have c5 : S_JLat_indexOfChar x 0 8 M (fun r M' => M' = M ∧ rng r ∧ (r < 0 ↔ isG x = false)) := by
    refine e_JLat_indexOfChar _ _ _ M fun K hK => w_JLat_indexOfChar_0 hK _ _ _ M ⟨by omega, ?_⟩
    have key : ∀ i : Nat, i ≤ 8 → (∀ j, j < i → sB.getD j 0 ≠ x) → K NN RRC 7 [(0, ve 30), (3, vi 8), (4, vi x), (5, vi (i : Int))] [] M := by
      refine up_ind ?_ ?_
      · intro h
        refine w_JLat_indexOfChar_7 hK _ _ _ M ⟨by decide, by decide, fun _ => ⟨rfl, by decide, fun _ => ?_, fun _ => by decide⟩, fun z => absurd (by decide) z⟩
        have h0 : (40 : Int) ≠ x := h 0 (by omega)
        have h1 : (41 : Int) ≠ x := h 1 (by omega)
        have h2 : (60 : Int) ≠ x := h 2 (by omega)
        have h3 : (61 : Int) ≠ x := h 3 (by omega)
        have h4 : (43 : Int) ≠ x := h 4 (by omega)
        have h5 : (45 : Int) ≠ x := h 5 (by omega)
        have h6 : (42 : Int) ≠ x := h 6 (by omega)
        have h7 : (59 : Int) ≠ x := h 7 (by omega)
        exact decide_eq_false (by omega)
      · intro i hi ih h
        refine w_JLat_indexOfChar_7 hK _ _ _ M ⟨by omega, by decide, fun z => by omega, fun _ => ⟨by omega, by omega, fun z => ?_, fun z => ?_⟩⟩
        · rw [Int.toNat_natCast] at z
          rw [show (i : Int) + 1 = ((i + 1 : Nat) : Int) by omega]
          refine ih fun j hj => ?_
          by_cases e : j = i
          · rw [e]; exact z
          · exact h j (by omega)
        · rw [Int.toNat_natCast] at z
          refine ⟨rfl, by omega, fun y => by omega, fun y => ?_⟩
          rw [← z, sB_isG i hi] at y
          cases y
    exact key 0 (by omega) (fun j hj => absurd hj (Nat.not_lt_zero _))
  refine W_JStr_indexOf_0 _ M ⟨_, ?_, fun r M' h => h⟩
  refine W_JStr_indexOf_1 _ _ M ⟨_, c2, ?_⟩
  rintro r M1 ⟨hM, rfl⟩
  obtain rfl := hM.symm
  refine ⟨by decide, fun z => absurd z (by decide), fun _ => ⟨_, c3, ?_⟩⟩
  rintro r M2 ⟨hM, rfl⟩
  obtain rfl := hM.symm
  refine ⟨_, e_JLat_indexOf _ _ _ M fun K hK => w_JLat_indexOf_0 hK _ _ _ M ⟨_, c4, ?_⟩, fun r M' h => h⟩
  rintro r M3 ⟨hM, rfl⟩
  obtain rfl := hM.symm
  have e1 : max (0 : Int) 0 = 0 := by decide
  have e2 : min (8 : Int) 8 = 8 := by decide
  rw [e1, e2]
  exact ⟨by decide, fun _ => ⟨by decide, by decide, fun _ => ⟨_, c5, fun r M' h => h⟩, fun z => absurd (by decide) z⟩, fun z => absurd z (by decide)⟩
theorem c_spelled {M : Mm} {x : Int} (hx : rngL x) : S_Word_spelled x M (fun r M' => M' = M ∧ r = spo x) := by
  refine e_Word_spelled _ M fun K hK => w_Word_spelled_0 hK _ M ?_
  have key : ∀ i, i ≤ 27 → fsb (fun i => decide (wL.getD i 0 = x)) 27 27 = fsb (fun i => decide (wL.getD i 0 = x)) 27 (27 - i) → K NN RRC 2 [(0, vl x), (2, vi (i : Int))] [] M := by
    refine up_ind ?_ ?_
    · intro e
      refine w_Word_spelled_2 hK _ _ M ⟨by omega, fun _ => ⟨rfl, ?_⟩, fun z => by omega⟩
      unfold spo
      rw [if_pos (by rw [e, Nat.sub_self, fsb])]
    · intro i hi ih e
      rw [fsb_step hi] at e
      have hc : cmpL (wL.getD i 0) x = 0 ↔ wL.getD i 0 = x := by
        unfold cmpL
        split
        · omega
        · split <;> omega
      refine w_Word_spelled_2 hK _ _ M ?_
      rw [Int.toNat_natCast]
      refine ⟨by omega, fun z => by omega, fun _ => ⟨by omega, hx, fun z => ih ?_, fun z => ⟨by omega, rfl, ?_⟩⟩⟩
      · rw [e, if_neg (fun y => z (hc.mpr (of_decide_eq_true y)))]
      · rw [if_pos (decide_eq_true (hc.mp z))] at e
        unfold spo
        rw [e, if_neg (by omega)]
  exact key 0 (by omega) rfl
abbrev kp2 (M M' : Mm) : Prop := M' 2 1 = M 2 1 ∧ M' 2 2 = M 2 2 ∧ M' 2 9 = M 2 9 ∧ M' 2 10 = M 2 10
abbrev fr2 (M M' : Mm) : Prop := FrC (fun c => c = 2) M M' ∧ kp2 M M'
theorem c_readWord {tx : TX} {b : Nat} {M : Mm} (hW : WX tx) (ht : ∀ j, j < tx.2 → M 3 j = tx.1 j) (h2 : M 2 2 = (tx.2 : Int)) (h3 : M 2 3 = (b : Int)) (h4 : M 2 4 = (b : Int)) (hb : b ≤ tx.2) : S_Tape_readWord 2 M (fun M' => M' 2 4 = (sc isL tx b : Int) ∧ M' 2 3 = (b : Int) ∧ M' 2 5 = (if sc isL tx b - b ≤ 8 then 2 else 1) ∧ M' 2 7 = enc 32 (lwd tx.1 b (sc isL tx b - b)) ∧ M' 2 6 = M 2 6 ∧ fr2 M M') := by
  have h1000 := hW.1
  refine e_Tape_readWord 2 M fun K hK => w_Tape_readWord_0 hK 2 atC_2 M ?_
  rintro M1 rfl
  have key : ∀ k i, i + k = tx.2 → b ≤ i → (∀ j, b ≤ j → j < i → isL (tx.1 j) = true) → sc isL tx b = sc isL tx i → ∀ M2 : Mm, M2 2 4 = (i : Int) → M2 2 3 = (b : Int) → M2 2 7 = enc 32 (lwd tx.1 b (i - b)) → M2 2 6 = M 2 6 → fr2 M M2 → K NN RRC 5 [(0, vr 2)] [] M2 := by
    intro k
    induction k with
    | zero =>
      intro i hk hbi hl he M2 s1 s2 s3 s4 s5
      refine w_Tape_readWord_5 hK 2 atC_2 M2 ?_
      rw [s1, s5.2.2.1, h2]
      refine ⟨by omega, by omega, fun _ => ?_, fun z => by omega⟩
      rw [sc_n (i := i) (by omega)] at he
      refine w_Tape_readWord_85 hK 2 atC_2 M2 ?_
      rw [s1, s2]
      refine ⟨by omega, fun z => ?_, fun z => ?_⟩
      · rintro M3 rfl
        rw [he]
        refine ⟨?_, ?_, ?_, ?_, ?_, s5.1.tr (FrC.up rfl), ?_, ?_, ?_, ?_⟩ <;> rw [upr_eq, if_pos rfl, up1_eq]
        · rw [if_neg (by omega)]; exact s1
        · rw [if_neg (by omega)]; exact s2
        · rw [if_pos rfl, if_neg (by omega)]
        · rw [if_neg (by omega)]; exact s3
        · rw [if_neg (by omega)]; exact s4
        · rw [if_neg (by omega)]; exact s5.2.1
        · rw [if_neg (by omega)]; exact s5.2.2.1
        · rw [if_neg (by omega)]; exact s5.2.2.2.1
        · rw [if_neg (by omega)]; exact s5.2.2.2.2
      · rintro M3 rfl
        rw [he]
        refine ⟨?_, ?_, ?_, ?_, ?_, s5.1.tr (FrC.up rfl), ?_, ?_, ?_, ?_⟩ <;> rw [upr_eq, if_pos rfl, up1_eq]
        · rw [if_neg (by omega)]; exact s1
        · rw [if_neg (by omega)]; exact s2
        · rw [if_pos rfl, if_pos (by omega)]
        · rw [if_neg (by omega)]; exact s3
        · rw [if_neg (by omega)]; exact s4
        · rw [if_neg (by omega)]; exact s5.2.1
        · rw [if_neg (by omega)]; exact s5.2.2.1
        · rw [if_neg (by omega)]; exact s5.2.2.2.1
        · rw [if_neg (by omega)]; exact s5.2.2.2.2
    | succ k ih =>
      intro i hk hbi hl he M2 s1 s2 s3 s4 s5
      have hg := hW.2 i (by omega)
      have e3 : M2 (2 + 1) i = tx.1 i := by rw [s5.1 (2 + 1) (by omega)]; exact ht i (by omega)
      have fin : ¬ isL (tx.1 i) = true → K NN RRC 85 [(0, vr 2)] [] M2 := by
        intro hn
        rw [sc_n (i := i) (fun z => hn z.2)] at he
        refine w_Tape_readWord_85 hK 2 atC_2 M2 ?_
        rw [s1, s2]
        refine ⟨by omega, fun z => ?_, fun z => ?_⟩
        · rintro M3 rfl
          rw [he]
          refine ⟨?_, ?_, ?_, ?_, ?_, s5.1.tr (FrC.up rfl), ?_, ?_, ?_, ?_⟩ <;> rw [upr_eq, if_pos rfl, up1_eq]
          · rw [if_neg (by omega)]; exact s1
          · rw [if_neg (by omega)]; exact s2
          · rw [if_pos rfl, if_neg (by omega)]
          · rw [if_neg (by omega)]; exact s3
          · rw [if_neg (by omega)]; exact s4
          · rw [if_neg (by omega)]; exact s5.2.1
          · rw [if_neg (by omega)]; exact s5.2.2.1
          · rw [if_neg (by omega)]; exact s5.2.2.2.1
          · rw [if_neg (by omega)]; exact s5.2.2.2.2
        · rintro M3 rfl
          rw [he]
          refine ⟨?_, ?_, ?_, ?_, ?_, s5.1.tr (FrC.up rfl), ?_, ?_, ?_, ?_⟩ <;> rw [upr_eq, if_pos rfl, up1_eq]
          · rw [if_neg (by omega)]; exact s1
          · rw [if_neg (by omega)]; exact s2
          · rw [if_pos rfl, if_pos (by omega)]
          · rw [if_neg (by omega)]; exact s3
          · rw [if_neg (by omega)]; exact s4
          · rw [if_neg (by omega)]; exact s5.2.1
          · rw [if_neg (by omega)]; exact s5.2.2.1
          · rw [if_neg (by omega)]; exact s5.2.2.2.1
          · rw [if_neg (by omega)]; exact s5.2.2.2.2
      refine w_Tape_readWord_5 hK 2 atC_2 M2 ?_
      rw [s1, s5.2.2.1, h2, Int.toNat_natCast, e3]
      refine ⟨by omega, by omega, fun z => by omega, fun _ => ⟨by omega, by omega, fun z => fin (fun y => ?_), fun z => ⟨by omega, by omega, fun z2 => fin (fun y => ?_), fun z2 => ⟨by omega, by omega, ?_⟩⟩⟩⟩
      · have := of_decide_eq_true y; omega
      · have := of_decide_eq_true y; omega
      · rintro M3 rfl M4 rfl
        have hli : isL (tx.1 i) = true := decide_eq_true (by omega)
        refine ih (i + 1) (by omega) (by omega) (fun j a b => ?_) (by rw [he, sc_y (by omega) hli]) _ ?_ ?_ ?_ ?_ ⟨(s5.1.tr (FrC.up rfl)).tr (FrC.up rfl), ?_, ?_, ?_, ?_⟩
        · by_cases y : j = i
          · rw [y]; exact hli
          · exact hl j a (by omega)
        · rw [upr_eq, if_pos rfl, up1_eq, if_pos rfl, upr_eq, if_pos rfl, up1_eq, if_neg (by omega), s1]; rfl
        · rw [upr_eq, if_pos rfl, up1_eq, if_neg (by omega), upr_eq, if_pos rfl, up1_eq, if_neg (by omega), s2]
        · rw [upr_eq, if_pos rfl, up1_eq, if_neg (by omega), upr_eq, if_pos rfl, up1_eq, if_pos rfl, s3, show i + 1 - b = (i - b) + 1 by omega, lwd, enc_app, show b + (i - b) = i by omega]
          omega
        · rw [upr_eq, if_pos rfl, up1_eq, if_neg (by omega), upr_eq, if_pos rfl, up1_eq, if_neg (by omega), s4]
        · rw [upr_eq, if_pos rfl, up1_eq, if_neg (by omega), upr_eq, if_pos rfl, up1_eq, if_neg (by omega)]; exact s5.2.1
        · rw [upr_eq, if_pos rfl, up1_eq, if_neg (by omega), upr_eq, if_pos rfl, up1_eq, if_neg (by omega)]; exact s5.2.2.1
        · rw [upr_eq, if_pos rfl, up1_eq, if_neg (by omega), upr_eq, if_pos rfl, up1_eq, if_neg (by omega)]; exact s5.2.2.2.1
        · rw [upr_eq, if_pos rfl, up1_eq, if_neg (by omega), upr_eq, if_pos rfl, up1_eq, if_neg (by omega)]; exact s5.2.2.2.2
  refine key (tx.2 - b) b (by omega) (Nat.le_refl _) (fun j a c => by omega) rfl _ ?_ ?_ ?_ ?_ ⟨FrC.up rfl, ?_, ?_, ?_, ?_⟩
  · rw [upr_eq, if_pos rfl, up1_eq, if_neg (by omega)]; exact h4
  · rw [upr_eq, if_pos rfl, up1_eq, if_neg (by omega)]; exact h3
  · rw [upr_eq, if_pos rfl, up1_eq, if_pos rfl, Nat.sub_self]; rfl
  · rw [upr_eq, if_pos rfl, up1_eq, if_neg (by omega)]
  · rw [upr_eq, if_pos rfl, up1_eq, if_neg (by omega)]
  · rw [upr_eq, if_pos rfl, up1_eq, if_neg (by omega)]
  · rw [upr_eq, if_pos rfl, up1_eq, if_neg (by omega)]
  · rw [upr_eq, if_pos rfl, up1_eq, if_neg (by omega)]
theorem c_readNumber {tx : TX} {b : Nat} {M : Mm} (hW : WX tx) (ht : ∀ j, j < tx.2 → M 3 j = tx.1 j) (h2 : M 2 2 = (tx.2 : Int)) (h3 : M 2 3 = (b : Int)) (h4 : M 2 4 = (b : Int)) (hb : b ≤ tx.2) : S_Tape_readNumber 2 M (fun M' => M' 2 4 = (sc isD tx b : Int) ∧ M' 2 3 = (b : Int) ∧ M' 2 5 = (if sc isD tx b - b ≤ 4 then 3 else 1) ∧ M' 2 8 = dvd_ tx.1 b (sc isD tx b - b) ∧ M' 2 6 = M 2 6 ∧ fr2 M M') := by
  have h1000 := hW.1
  refine e_Tape_readNumber 2 M fun K hK => w_Tape_readNumber_0 hK 2 atC_2 M ?_
  rintro M1 rfl
  have key : ∀ k i, i + k = tx.2 → b ≤ i → (∀ j, b ≤ j → j < i → isD (tx.1 j) = true) → sc isD tx b = sc isD tx i → ∀ M2 : Mm, M2 2 4 = (i : Int) → M2 2 3 = (b : Int) → M2 2 8 = dvd_ tx.1 b (i - b) → M2 2 6 = M 2 6 → fr2 M M2 → K NN RRC 5 [(0, vr 2)] [] M2 := by
    intro k
    induction k with
    | zero =>
      intro i hk hbi hl he M2 s1 s2 s3 s4 s5
      refine w_Tape_readNumber_5 hK 2 atC_2 M2 ?_
      rw [s1, s5.2.2.1, h2]
      refine ⟨by omega, by omega, fun _ => ?_, fun z => by omega⟩
      rw [sc_n (i := i) (by omega)] at he
      refine w_Tape_readNumber_81 hK 2 atC_2 M2 ?_
      rw [s1, s2]
      refine ⟨by omega, fun z => ?_, fun z => ?_⟩
      · rintro M3 rfl
        rw [he]
        refine ⟨?_, ?_, ?_, ?_, ?_, s5.1.tr (FrC.up rfl), ?_, ?_, ?_, ?_⟩ <;> rw [upr_eq, if_pos rfl, up1_eq]
        · rw [if_neg (by omega)]; exact s1
        · rw [if_neg (by omega)]; exact s2
        · rw [if_pos rfl, if_neg (by omega)]
        · rw [if_neg (by omega)]; exact s3
        · rw [if_neg (by omega)]; exact s4
        · rw [if_neg (by omega)]; exact s5.2.1
        · rw [if_neg (by omega)]; exact s5.2.2.1
        · rw [if_neg (by omega)]; exact s5.2.2.2.1
        · rw [if_neg (by omega)]; exact s5.2.2.2.2
      · rintro M3 rfl
        rw [he]
        refine ⟨?_, ?_, ?_, ?_, ?_, s5.1.tr (FrC.up rfl), ?_, ?_, ?_, ?_⟩ <;> rw [upr_eq, if_pos rfl, up1_eq]
        · rw [if_neg (by omega)]; exact s1
        · rw [if_neg (by omega)]; exact s2
        · rw [if_pos rfl, if_pos (by omega)]
        · rw [if_neg (by omega)]; exact s3
        · rw [if_neg (by omega)]; exact s4
        · rw [if_neg (by omega)]; exact s5.2.1
        · rw [if_neg (by omega)]; exact s5.2.2.1
        · rw [if_neg (by omega)]; exact s5.2.2.2.1
        · rw [if_neg (by omega)]; exact s5.2.2.2.2
    | succ k ih =>
      intro i hk hbi hl he M2 s1 s2 s3 s4 s5
      have hg := hW.2 i (by omega)
      have e3 : M2 (2 + 1) i = tx.1 i := by rw [s5.1 (2 + 1) (by omega)]; exact ht i (by omega)
      have fin : ¬ isD (tx.1 i) = true → K NN RRC 81 [(0, vr 2)] [] M2 := by
        intro hn
        rw [sc_n (i := i) (fun z => hn z.2)] at he
        refine w_Tape_readNumber_81 hK 2 atC_2 M2 ?_
        rw [s1, s2]
        refine ⟨by omega, fun z => ?_, fun z => ?_⟩
        · rintro M3 rfl
          rw [he]
          refine ⟨?_, ?_, ?_, ?_, ?_, s5.1.tr (FrC.up rfl), ?_, ?_, ?_, ?_⟩ <;> rw [upr_eq, if_pos rfl, up1_eq]
          · rw [if_neg (by omega)]; exact s1
          · rw [if_neg (by omega)]; exact s2
          · rw [if_pos rfl, if_neg (by omega)]
          · rw [if_neg (by omega)]; exact s3
          · rw [if_neg (by omega)]; exact s4
          · rw [if_neg (by omega)]; exact s5.2.1
          · rw [if_neg (by omega)]; exact s5.2.2.1
          · rw [if_neg (by omega)]; exact s5.2.2.2.1
          · rw [if_neg (by omega)]; exact s5.2.2.2.2
        · rintro M3 rfl
          rw [he]
          refine ⟨?_, ?_, ?_, ?_, ?_, s5.1.tr (FrC.up rfl), ?_, ?_, ?_, ?_⟩ <;> rw [upr_eq, if_pos rfl, up1_eq]
          · rw [if_neg (by omega)]; exact s1
          · rw [if_neg (by omega)]; exact s2
          · rw [if_pos rfl, if_pos (by omega)]
          · rw [if_neg (by omega)]; exact s3
          · rw [if_neg (by omega)]; exact s4
          · rw [if_neg (by omega)]; exact s5.2.1
          · rw [if_neg (by omega)]; exact s5.2.2.1
          · rw [if_neg (by omega)]; exact s5.2.2.2.1
          · rw [if_neg (by omega)]; exact s5.2.2.2.2
      refine w_Tape_readNumber_5 hK 2 atC_2 M2 ?_
      rw [s1, s5.2.2.1, h2, Int.toNat_natCast, e3]
      refine ⟨by omega, by omega, fun z => by omega, fun _ => ⟨by omega, by omega, fun z => fin (fun y => ?_), fun z => ⟨by omega, by omega, fun z2 => fin (fun y => ?_), fun z2 => ⟨by omega, ?_⟩⟩⟩⟩
      · have := of_decide_eq_true y; omega
      · have := of_decide_eq_true y; omega
      · rintro M3 rfl M4 rfl
        have hli : isD (tx.1 i) = true := decide_eq_true (by omega)
        refine ih (i + 1) (by omega) (by omega) (fun j a b => ?_) (by rw [he, sc_y (by omega) hli]) _ ?_ ?_ ?_ ?_ ⟨(s5.1.tr (FrC.up rfl)).tr (FrC.up rfl), ?_, ?_, ?_, ?_⟩
        · by_cases y : j = i
          · rw [y]; exact hli
          · exact hl j a (by omega)
        · rw [upr_eq, if_pos rfl, up1_eq, if_pos rfl, upr_eq, if_pos rfl, up1_eq, if_neg (by omega), s1]; rfl
        · rw [upr_eq, if_pos rfl, up1_eq, if_neg (by omega), upr_eq, if_pos rfl, up1_eq, if_neg (by omega), s2]
        · rw [upr_eq, if_pos rfl, up1_eq, if_neg (by omega), upr_eq, if_pos rfl, up1_eq, if_pos rfl, s3, show i + 1 - b = (i - b) + 1 by omega, dvd_, show b + (i - b) = i by omega]
        · rw [upr_eq, if_pos rfl, up1_eq, if_neg (by omega), upr_eq, if_pos rfl, up1_eq, if_neg (by omega), s4]
        · rw [upr_eq, if_pos rfl, up1_eq, if_neg (by omega), upr_eq, if_pos rfl, up1_eq, if_neg (by omega)]; exact s5.2.1
        · rw [upr_eq, if_pos rfl, up1_eq, if_neg (by omega), upr_eq, if_pos rfl, up1_eq, if_neg (by omega)]; exact s5.2.2.1
        · rw [upr_eq, if_pos rfl, up1_eq, if_neg (by omega), upr_eq, if_pos rfl, up1_eq, if_neg (by omega)]; exact s5.2.2.2.1
        · rw [upr_eq, if_pos rfl, up1_eq, if_neg (by omega), upr_eq, if_pos rfl, up1_eq, if_neg (by omega)]; exact s5.2.2.2.2
  refine key (tx.2 - b) b (by omega) (Nat.le_refl _) (fun j a c => by omega) rfl _ ?_ ?_ ?_ ?_ ⟨FrC.up rfl, ?_, ?_, ?_, ?_⟩
  · rw [upr_eq, if_pos rfl, up1_eq, if_neg (by omega)]; exact h4
  · rw [upr_eq, if_pos rfl, up1_eq, if_neg (by omega)]; exact h3
  · rw [upr_eq, if_pos rfl, up1_eq, if_pos rfl, Nat.sub_self]; rfl
  · rw [upr_eq, if_pos rfl, up1_eq, if_neg (by omega)]
  · rw [upr_eq, if_pos rfl, up1_eq, if_neg (by omega)]
  · rw [upr_eq, if_pos rfl, up1_eq, if_neg (by omega)]
  · rw [upr_eq, if_pos rfl, up1_eq, if_neg (by omega)]
  · rw [upr_eq, if_pos rfl, up1_eq, if_neg (by omega)]
theorem c_advance {tx : TX} {p : Nat} {M : Mm} (hW : WX tx) (ht : ∀ j, j < tx.2 → M 3 j = tx.1 j) (h2 : M 2 2 = (tx.2 : Int)) (h4 : M 2 4 = (p : Int)) (hp : p ≤ tx.2) : S_Tape_advance 2 M (fun M' => TpC tx p M' ∧ fr2 M M') := by
  have h1000 := hW.1
  have hok := te_ok hp
  refine e_Tape_advance 2 M fun K hK => ?_
  have k52 : ∀ M2 : Mm, M2 2 4 = (tb_ tx p : Int) → fr2 M M2 → K NN RRC 52 [(0, vr 2)] [] M2 := by
    intro M2 s1 s2
    refine w_Tape_advance_52 hK 2 atC_2 M2 ?_
    intro M3 g3 M4 g4
    have a2 : M4 2 2 = (tx.2 : Int) := by rw [g4, upr_eq, if_pos rfl, up1_eq, if_neg (by omega), g3, upr_eq, if_pos rfl, up1_eq, if_neg (by omega), s2.2.2.1]; exact h2
    have a3 : M4 2 3 = (tb_ tx p : Int) := by rw [g4, upr_eq, if_pos rfl, up1_eq, if_neg (by omega), g3, upr_eq, if_pos rfl, up1_eq, if_pos rfl]; exact s1
    have a4 : M4 2 4 = (tb_ tx p : Int) := by rw [g4, upr_eq, if_pos rfl, up1_eq, if_neg (by omega), g3, upr_eq, if_pos rfl, up1_eq, if_neg (by omega)]; exact s1
    have a6 : M4 2 6 = 0 + 1 := by rw [g4, upr_eq, if_pos rfl, up1_eq, if_pos rfl]
    have f4 : fr2 M M4 := by
      refine ⟨s2.1.tr (by rw [g4, g3]; exact (FrC.up (p := fun c => c = 2) (c := 2) rfl).tr (FrC.up (c := 2) rfl)), ?_, ?_, ?_, ?_⟩ <;> rw [g4, upr_eq, if_pos rfl, up1_eq, if_neg (by omega), g3, upr_eq, if_pos rfl, up1_eq, if_neg (by omega)]
      · exact s2.2.1
      · exact s2.2.2.1
      · exact s2.2.2.2.1
      · exact s2.2.2.2.2
    have tx4 : ∀ j, j < tx.2 → M4 3 j = tx.1 j := fun j hj => by rw [f4.1 3 (by omega)]; exact ht j hj
    rw [a2, a4, Int.toNat_natCast]
    have k91 : ∀ s0 : Int, (tb_ tx p < tx.2 → s0 = tx.1 (tb_ tx p)) → K NN RRC 91 [(0, vr 2)] [vi s0] M4 := by
      intro s0 hs
      refine w_Tape_advance_91 hK 2 atC_2 _ M4 ?_
      rw [a2, a4]
      by_cases hend : tx.2 ≤ tb_ tx p
      · have ek : tk_ tx p = 0 := by unfold tk_; rw [if_pos hend]
        have ee : te_ tx p = tb_ tx p := by unfold te_; rw [if_pos hend]
        refine ⟨by omega, by omega, fun z => by omega, fun _ => ?_⟩
        rintro M5 rfl
        refine ⟨⟨fun j hj => by rw [upr_eq, if_neg (by omega)]; exact tx4 j hj, ?_, ?_, ?_, ?_, ?_, fun z => by omega, fun z => by omega, fun z => by omega⟩, f4.1.tr (FrC.up rfl), ?_, ?_, ?_, ?_⟩ <;> rw [upr_eq, if_pos rfl, up1_eq]
        · rw [if_neg (by omega)]; exact a2
        · rw [if_neg (by omega)]; exact a3
        · rw [if_neg (by omega), ee]; exact a4
        · rw [if_pos rfl, ek]; rfl
        · rw [if_neg (by omega), a6]; unfold wo_; rw [if_neg (by omega)]; rfl
        · rw [if_neg (by omega)]; exact f4.2.1
        · rw [if_neg (by omega)]; exact f4.2.2.1
        · rw [if_neg (by omega)]; exact f4.2.2.2.1
        · rw [if_neg (by omega)]; exact f4.2.2.2.2
      · have hs0 := hs (by omega)
        subst hs0
        have hg := hW.2 (tb_ tx p) (by omega)
        have hnb : ¬ isB (tx.1 (tb_ tx p)) = true := fun z => (sc_ok (p := isB) hp).2.2.1 ⟨by show tb_ tx p < tx.2; omega, z⟩
        have hr : 33 ≤ tx.1 (tb_ tx p) ∧ tx.1 (tb_ tx p) ≤ 126 := by
          have : ¬ (tx.1 (tb_ tx p) = 10 ∨ tx.1 (tb_ tx p) = 32) := fun z => hnb (decide_eq_true z)
          omega
        have k155 : ¬ isL (tx.1 (tb_ tx p)) = true → K NN RRC 155 [(0, vr 2), (1, vi (tx.1 (tb_ tx p)))] [] M4 := by
          intro hnl
          have k190 : ¬ isD (tx.1 (tb_ tx p)) = true → ∀ s0 : Int, s0 = (if isG (tx.1 (tb_ tx p)) = true then 4 else 1) → K NN RRC 190 [(0, vr 2), (1, vi (tx.1 (tb_ tx p)))] [vi s0, vr 2] M4 := by
            rintro hnd s0 rfl
            have ek : tk_ tx p = if isG (tx.1 (tb_ tx p)) = true then 4 else 1 := by unfold tk_; rw [if_neg hend, if_neg hnl, if_neg hnd]
            have ee : te_ tx p = tb_ tx p + 1 := by unfold te_; rw [if_neg hend, if_neg hnl, if_neg hnd]
            have ev : tv_ tx p = tx.1 (tb_ tx p) := by unfold tv_; rw [if_neg hnd]
            have ew : wo_ tx p = 0 := by
              unfold wo_
              rw [if_neg (fun z => by rw [ek] at z; split at z <;> omega)]
            refine w_Tape_advance_190 hK 2 atC_2 _ _ M4 ?_
            rintro M5 rfl M6 rfl M7 rfl
            refine ⟨⟨fun j hj => by rw [upr_eq, if_neg (by omega), upr_eq, if_neg (by omega), upr_eq, if_neg (by omega)]; exact tx4 j hj, ?_, ?_, ?_, ?_, ?_, fun z => ?_, fun z => ?_, fun z => ?_⟩, ((f4.1.tr (FrC.up rfl)).tr (FrC.up rfl)).tr (FrC.up rfl), ?_, ?_, ?_, ?_⟩
            · simpa [upr_eq, up1_eq] using a2
            · simpa [upr_eq, up1_eq] using a3
            · simp [upr_eq, up1_eq]; rw [a4, ee]; rfl
            · simp [upr_eq, up1_eq]; rw [ek]; split <;> rfl
            · simp [upr_eq, up1_eq]; rw [a6, ew]; rfl
            · rw [ek] at z; split at z <;> omega
            · rw [ek] at z; split at z <;> omega
            · simp [upr_eq, up1_eq]; rw [ev]
            · simpa [upr_eq, up1_eq] using f4.2.1
            · simpa [upr_eq, up1_eq] using f4.2.2.1
            · simpa [upr_eq, up1_eq] using f4.2.2.2.1
            · simpa [upr_eq, up1_eq] using f4.2.2.2.2
          have kix : ¬ isD (tx.1 (tb_ tx p)) = true → ∃ P1 : Int → Mm → Prop, S_JStr_indexOf_0 (tx.1 (tb_ tx p)) M4 P1 ∧ ∀ (r1 : Int) (M1 : Mm), P1 r1 M1 → (rng r1) ∧ (r1 < 0 → (K NN RRC 190 [(0, vr 2), (1, vi (tx.1 (tb_ tx p)))] [vi 1, vr 2] M1)) ∧ (¬ (r1 < 0) → (K NN RRC 190 [(0, vr 2), (1, vi (tx.1 (tb_ tx p)))] [vi 4, vr 2] M1)) := by
            intro hnd
            refine ⟨_, c_indexOf (by omega), ?_⟩
            rintro r M5 ⟨rfl, r1, r2⟩
            refine ⟨r1, fun z => k190 hnd 1 ?_, fun z => k190 hnd 4 ?_⟩
            · rw [r2.mp z]; rfl
            · have : isG (tx.1 (tb_ tx p)) = true := by
                cases e : isG (tx.1 (tb_ tx p))
                · exact absurd (r2.mpr e) z
                · rfl
              rw [this]; rfl
          refine w_Tape_advance_155 hK 2 atC_2 _ M4 ⟨by omega, fun z => ⟨by omega, kix (fun y => by have := of_decide_eq_true y; omega)⟩, fun z => ⟨by omega, fun z2 => ⟨by omega, kix (fun y => by have := of_decide_eq_true y; omega)⟩, fun z2 => ⟨_, c_readNumber hW tx4 a2 a3 a4 (by omega), ?_⟩⟩⟩
          have hd : isD (tx.1 (tb_ tx p)) = true := decide_eq_true (by omega)
          rintro M5 ⟨b1, b2, b3, b4, b5, b6⟩
          have ee : te_ tx p = sc isD tx (tb_ tx p) := by unfold te_; rw [if_neg hend, if_neg hnl, if_pos hd]
          have ek : tk_ tx p = if te_ tx p - tb_ tx p ≤ 4 then 3 else 1 := by unfold tk_; rw [if_neg hend, if_neg hnl, if_pos hd]
          have ev : tv_ tx p = dvd_ tx.1 (tb_ tx p) (te_ tx p - tb_ tx p) := by unfold tv_; rw [if_pos hd]
          have ew : wo_ tx p = 0 := by
            unfold wo_
            rw [if_neg (fun z => by rw [ek] at z; split at z <;> omega)]
          rw [← ee] at b1 b3 b4
          refine ⟨⟨fun j hj => by rw [b6.1 3 (by omega)]; exact tx4 j hj, by rw [b6.2.2.1]; exact a2, b2, b1, ?_, by rw [b5, a6, ew]; rfl, fun z => by rw [ek] at z; split at z <;> omega, fun z => by rw [b4, ev], fun z => by rw [ek] at z; split at z <;> omega⟩, f4.1.tr b6.1, b6.2.1.trans f4.2.1, b6.2.2.1.trans f4.2.2.1, b6.2.2.2.1.trans f4.2.2.2.1, b6.2.2.2.2.trans f4.2.2.2.2⟩
          rw [b3, ek]
          split <;> rfl
        refine ⟨by omega, by omega, fun _ => ⟨by omega, fun z => k155 (fun y => by have := of_decide_eq_true y; omega), fun z => ⟨by omega, fun z2 => k155 (fun y => by have := of_decide_eq_true y; omega), fun z2 => ⟨_, c_readWord hW tx4 a2 a3 a4 (by omega), ?_⟩⟩⟩, fun z => by omega⟩
        have hl : isL (tx.1 (tb_ tx p)) = true := decide_eq_true (by omega)
        have ee : te_ tx p = sc isL tx (tb_ tx p) := by unfold te_; rw [if_neg hend, if_pos hl]
        have ek : tk_ tx p = if te_ tx p - tb_ tx p ≤ 8 then 2 else 1 := by unfold tk_; rw [if_neg hend, if_pos hl]
        rintro M5 ⟨b1, b2, b3, b4, b5, b6⟩
        rw [← ee] at b1 b3 b4
        have e5 : M5 2 5 = (tk_ tx p : Int) := by
          rw [b3, ek]
          split <;> rfl
        have f5 : fr2 M M5 := ⟨f4.1.tr b6.1, b6.2.1.trans f4.2.1, b6.2.2.1.trans f4.2.2.1, b6.2.2.2.1.trans f4.2.2.2.1, b6.2.2.2.2.trans f4.2.2.2.2⟩
        have tx5 : ∀ j, j < tx.2 → M5 3 j = tx.1 j := fun j hj => by rw [b6.1 3 (by omega)]; exact tx4 j hj
        have a25 : M5 2 2 = (tx.2 : Int) := by rw [b6.2.2.1]; exact a2
        have fin : ∀ w : Int, w = (wo_ tx p : Int) + 1 → TpC tx p (upr M5 2 (up1 (M5 2) 6 w)) ∧ fr2 M (upr M5 2 (up1 (M5 2) 6 w)) := by
          rintro w rfl
          refine ⟨⟨fun j hj => by rw [upr_eq, if_neg (by omega)]; exact tx5 j hj, ?_, ?_, ?_, ?_, ?_, fun z => ?_, fun z => by rw [ek] at z; split at z <;> omega, fun z => by rw [ek] at z; split at z <;> omega⟩, f5.1.tr (FrC.up rfl), ?_, ?_, ?_, ?_⟩ <;> rw [upr_eq, if_pos rfl, up1_eq]
          · rw [if_neg (by omega)]; exact a25
          · rw [if_neg (by omega)]; exact b2
          · rw [if_neg (by omega)]; exact b1
          · rw [if_neg (by omega)]; exact e5
          · rw [if_pos rfl]
          · rw [if_neg (by omega), b4]; rfl
          · rw [if_neg (by omega)]; exact f5.2.1
          · rw [if_neg (by omega)]; exact f5.2.2.1
          · rw [if_neg (by omega)]; exact f5.2.2.2.1
          · rw [if_neg (by omega)]; exact f5.2.2.2.2
        rw [e5]
        have hk2 : tk_ tx p = 1 ∨ tk_ tx p = 2 := by rw [ek]; split <;> omega
        refine ⟨by omega, fun z => ?_, fun z => ?_⟩
        · rintro M6 rfl
          exact fin _ (by unfold wo_; rw [if_neg (by omega)]; rfl)
        · have hk : tk_ tx p = 2 := by omega
          have e7 : M5 2 7 = enc 32 (tl_ tx p) := b4
          rw [e7]
          refine ⟨_, c_spelled (enc_rL (Or.inr rfl) (tl_ok hp hk)).2, ?_⟩
          rintro r M6 ⟨rfl, rfl⟩
          refine ⟨spo_lt _, ?_⟩
          rintro M7 rfl
          exact fin _ (by unfold wo_; rw [if_pos hk])
    refine ⟨by omega, by omega, fun z => k91 0 (fun y => by omega), fun z => ⟨by omega, k91 _ (fun y => ?_)⟩⟩
    exact tx4 _ (by omega)
  have key : ∀ k i, i + k = tx.2 → tb_ tx p = sc isB tx i → ∀ M2 : Mm, M2 2 4 = (i : Int) → fr2 M M2 → K NN RRC 0 [(0, vr 2)] [] M2 := by
    intro k
    induction k with
    | zero =>
      intro i hk he M2 s1 s2
      rw [sc_n (i := i) (by omega)] at he
      refine w_Tape_advance_0 hK 2 atC_2 M2 ?_
      rw [s1, s2.2.2.1, h2]
      exact ⟨by omega, by omega, fun _ => k52 M2 (by rw [s1, he]) s2, fun z => by omega⟩
    | succ k ih =>
      intro i hk he M2 s1 s2
      have hg := hW.2 i (by omega)
      have e3 : M2 (2 + 1) i = tx.1 i := by rw [s2.1 (2 + 1) (by omega)]; exact ht i (by omega)
      have go : isB (tx.1 i) = true → ∀ M3 : Mm, M3 = upr M2 2 (up1 (M2 2) 4 ((i : Int) + 1)) → K NN RRC 0 [(0, vr 2)] [] M3 := by
        rintro hb M3 rfl
        refine ih (i + 1) (by omega) (by rw [he, sc_y (by omega) hb]) _ ?_ ⟨s2.1.tr (FrC.up rfl), ?_, ?_, ?_, ?_⟩ <;> rw [upr_eq, if_pos rfl, up1_eq]
        · rw [if_pos rfl]; rfl
        · rw [if_neg (by omega)]; exact s2.2.1
        · rw [if_neg (by omega)]; exact s2.2.2.1
        · rw [if_neg (by omega)]; exact s2.2.2.2.1
        · rw [if_neg (by omega)]; exact s2.2.2.2.2
      refine w_Tape_advance_0 hK 2 atC_2 M2 ?_
      rw [s1, s2.2.2.1, h2, Int.toNat_natCast, e3]
      refine ⟨by omega, by omega, fun z => by omega, fun _ => ⟨by omega, by omega, fun z => go (decide_eq_true (Or.inl z)), fun z => ⟨by omega, by omega, fun z2 => k52 M2 ?_ s2, fun z2 => go (decide_eq_true (Or.inr z2))⟩⟩⟩
      rw [s1, he, sc_n (fun y => by have := of_decide_eq_true y.2; omega)]
  exact key (tx.2 - p) p (by omega) rfl M h4 ⟨FrC.rf, rfl, rfl, rfl, rfl⟩
