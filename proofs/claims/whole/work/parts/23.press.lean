theorem st_cat {b b1 : Nat} (hb : At shC NN b (.inl 7)) (hb1 : At shC NN b1 (.inl 5)) : ∀ i j, i < 14 → j < 5 → b1 + j ≠ b + i := by
  intro i j hi hj
  have h1 := town_at hb
  have h2 := st_at hb1
  omega
def prs (t : TT) (σ : Nat → Int) (h : Nat) : Int := max 0 (min (tP t (σ (12 + h)) (σ (19 + h)) (σ 1)) (σ (19 + h)))
def prt (t : TT) (σ : Nat → Int) (a h : Nat) : Int := if tkind t h = 3 then 0 else max 0 (min (tQ t (σ (12 + h)) (σ (19 + h)) (σ 1) (tink t a) (σ (12 + a))) 9)
theorem c_isTold {M : Mm} {b : Nat} (hb : At shC NN b (.inl 0)) (hr : rng (M b 3)) : S_Law_isTold b M (fun r M' => M' = M ∧ r = zo (decide (0 < M b 3))) := by
  refine W_Law_isTold b hb M ?_
  refine ⟨hr, fun h => ⟨rfl, ?_⟩, fun h => ⟨rfl, ?_⟩⟩ <;> simp <;> omega
theorem c_pressedOut {t : TT} {n B : Nat} {σ : Nat → Int} {M : Mm} {b b1 h : Nat} (hb : At shC NN b (.inl 7)) (hb1 : At shC NN b1 (.inl 5)) (hT : RT t M b) (hS : RS n σ M b1) (hw : WF n B σ) (hn : n ≤ 7) (hh : h < n) :
    S_Town_pressedOut b b1 (h : Int) M (fun r M' => r = prs t σ h ∧ FrC (fun c => c = b + 10) M M') := by
  have w5 := hw.2.2.2.2.1 h hh
  have s5 := hS.2 h hh
  refine e_Town_pressedOut b b1 _ M fun K hK => w_Town_pressedOut_0 hK b hb b1 hb1 _ M ?_
  rw [Int.toNat_natCast, s5.2.1, s5.2.2.1, hS.1.2.1]
  have key : ∀ s0 : Int, rng s0 → (M (b + 8) 3 = 0 → s0 = tP t (σ (12 + h)) (σ (19 + h)) (σ 1)) → K NN RRC 32 [(0, vr b), (1, vr b1), (3, vi (σ (12 + h))), (4, vi (σ (19 + h)))] [vi s0] M := by
    intro s0 hs0 he
    refine w_Town_pressedOut_32 hK b hb b1 hb1 _ _ s0 M ?_
    have hlr : rng (M (b + 8) 3) := by
      rcases hT.2.2.2.1 with h9 | h9
      · rw [h9.1]; decide
      · exact h9.1
    refine ⟨_, c_isTold (at_7_7 hb) hlr, ?_⟩
    rintro r M1 ⟨rfl, rfl⟩
    refine ⟨zo_rng _, fun q => ?_, fun q => ?_⟩
    · refine ⟨hs0, by omega, ?_, FrC.rf⟩
      rcases hT.2.2.2.1 with h9 | h9
      · rw [he h9.1]; rfl
      · simp at q
        have := h9.2.1
        omega
    · rcases hT.2.2.2.1 with h9 | h9
      · simp [h9.1] at q
      · refine ⟨_, h9.2.2 M1 rfl rfl _ _ _ 0 0 (by omega) (by omega) (by rw [hS.1.2.1]; have := hw.2.1; omega) (by decide) (by decide), ?_⟩
        rintro r2 M2 ⟨rfl, hr2, hf⟩
        refine ⟨hr2, by omega, ?_, hf⟩
        rw [hS.1.2.1]; rfl
  refine ⟨by omega, by omega, by omega, by have := hw.2.1; omega, fun q => key _ (rng_toInt _) ?_, fun q => key _ (by omega) ?_⟩
  · intro h0
    rcases hT.2.2.2.1 with h9 | h9
    · rw [h9.2]
      simp only [if_pos q]
      obtain ⟨a, ha⟩ : ∃ a : Nat, σ (19 + h) = (a : Int) := ⟨(σ (19 + h)).toNat, by omega⟩
      rw [ha]
      exact divI_pos (d := 2) (by omega) (by omega) (by omega)
    · omega
  · intro h0
    rcases hT.2.2.2.1 with h9 | h9
    · rw [h9.2]
      simp only [if_neg q]
    · omega
theorem c_printedOn {t : TT} {B : Nat} {σ : Nat → Int} {M : Mm} {b b1 a h : Nat} (hb : At shC NN b (.inl 7)) (hb1 : At shC NN b1 (.inl 5)) (hT : RT t M b) (hW : WT t) (hS : RS (tn t) σ M b1) (hw : WF (tn t) B σ) (ha : a < tn t) (hh : h < tn t) :
    S_Town_printedOn b b1 (a : Int) (h : Int) M (fun r M' => r = prt t σ a h ∧ FrC (fun c => c = b + 13) M M') := by
  have hn := hW.1
  have w5 := hw.2.2.2.2.1 h hh
  have s5 := hS.2 h hh
  have w5a := hw.2.2.2.2.1 a ha
  have s5a := hS.2 a ha
  have hka := hW.2.1 a ha
  have ta := hT.2.1 a ha
  have hlr : rng (M (b + 11) 3) := by
    rcases hT.2.2.2.2 with h9 | h9
    · rw [h9.1]; decide
    · exact h9.1
  refine e_Town_printedOn b b1 _ _ M fun K hK => w_Town_printedOn_0 hK b hb b1 hb1 _ _ M ?_
  refine ⟨_, c_isCat hb hT hW hh, ?_⟩
  rintro r M1 ⟨rfl, rfl⟩
  refine ⟨zo_rng _, fun q => ?_, fun q => ?_⟩
  · have q3 : ¬ tkind t h = 3 := by simpa using q
    refine ⟨by omega, _, c_isTold (at_7_8 hb) hlr, ?_⟩
    rintro r M2 ⟨rfl, rfl⟩
    rw [Int.toNat_natCast, Int.toNat_natCast, ta.2.1, s5.2.1, s5.2.2.1, s5a.2.1, hS.1.2.1]
    refine ⟨zo_rng _, fun q => ?_, fun q => ?_⟩
    · rcases hT.2.2.2.2 with h9 | h9
      · refine ⟨by omega, ?_, FrC.rf⟩
        unfold prt
        rw [if_neg q3, h9.2]
      · simp at q
        have := h9.2.1
        omega
    · rcases hT.2.2.2.2 with h9 | h9
      · simp [h9.1] at q
      · refine ⟨by omega, by omega, by omega, _, h9.2.2 M2 rfl rfl _ _ _ _ _ (by omega) (by omega) (by have := hw.2.1; omega) (by omega) (by omega), ?_⟩
        rintro r2 M3 ⟨rfl, hr2, hf⟩
        refine ⟨hr2, ?_, hf⟩
        unfold prt
        rw [if_neg q3]
  · have q3 : tkind t h = 3 := by simpa using q
    refine ⟨?_, FrC.rf⟩
    unfold prt
    rw [if_pos q3]
