theorem cp7 {f g : Nat → Int} {j : Nat} (h : j < 7) : cpI f g 0 0 7 j = f j := by unfold cpI; rw [if_pos (by omega)]; congr 1; omega
theorem c_copyFrom {M : Mm} {b b1 : Nat} (hb : At shC NN b (.inl 5)) (hb1 : At shC NN b1 (.inl 5)) (ha : b + 4 < b1 ∨ b1 + 4 < b) :
    S_State_copyFrom b b1 M (fun M' => (∀ n σ, n ≤ 7 → RS n σ M b1 → RS n σ M' b) ∧ FrC (inS b) M M') := by
  refine W_State_copyFrom b hb b1 hb1 M ?_
  intro M1 h1 M2 h2 M3 h3 M4 h4 M5 h5 M6 h6 M7 h7 M8 h8 M9 h9
  have f4 : FrC (inS b) M M4 := by
    have f1 : FrC (inS b) M M1 := by rw [h1]; exact FrC.up (by omega)
    have f2 : FrC (inS b) M1 M2 := by rw [h2]; exact FrC.up (by omega)
    have f3 : FrC (inS b) M2 M3 := by rw [h3]; exact FrC.up (by omega)
    have f4 : FrC (inS b) M3 M4 := by rw [h4]; exact FrC.up (by omega)
    exact ((f1.tr f2).tr f3).tr f4
  have r1 : M4 (b + 1) = cpI (M (b1 + 1)) (M (b + 1)) 0 0 7 := by rw [h4, upr_eq, if_neg (by omega), h3, upr_eq, if_neg (by omega), h2, upr_eq, if_neg (by omega), h1, upr_eq, if_pos rfl]
  have r2 : M4 (b + 2) = cpI (M (b1 + 2)) (M1 (b + 2)) 0 0 7 := by rw [h4, upr_eq, if_neg (by omega), h3, upr_eq, if_neg (by omega), h2, upr_eq, if_pos rfl, h1, upr_eq M, if_neg (by omega)]
  have r3 : M4 (b + 3) = cpI (M (b1 + 3)) (M2 (b + 3)) 0 0 7 := by rw [h4, upr_eq, if_neg (by omega), h3, upr_eq, if_pos rfl, h2, upr_eq M1 (b + 2) _ (b1 + 3), if_neg (by omega), h1, upr_eq M _ _ (b1 + 3), if_neg (by omega)]
  have r4 : M4 (b + 4) = cpI (M (b1 + 4)) (M3 (b + 4)) 0 0 7 := by rw [h4, upr_eq, if_pos rfl, h3, upr_eq M2 (b + 3) _ (b1 + 4), if_neg (by omega), h2, upr_eq M1 (b + 2) _ (b1 + 4), if_neg (by omega), h1, upr_eq M _ _ (b1 + 4), if_neg (by omega)]
  have rb : M4 b1 = M b1 := f4 b1 (by omega)
  have n9 : ∀ c, c ≠ b → M9 c = M4 c := by
    intro c hc
    rw [h9, upr_eq, if_neg hc, h8, upr_eq, if_neg hc, h7, upr_eq, if_neg hc, h6, upr_eq, if_neg hc, h5, upr_eq, if_neg hc]
  have e5 : M5 b1 = M b1 := by rw [h5, upr_eq, if_neg (by omega)]; exact rb
  have e6 : M6 b1 = M b1 := by rw [h6, upr_eq, if_neg (by omega)]; exact e5
  have e7 : M7 b1 = M b1 := by rw [h7, upr_eq, if_neg (by omega)]; exact e6
  have e8 : M8 b1 = M b1 := by rw [h8, upr_eq, if_neg (by omega)]; exact e7
  have s9 : M9 b 4 = M b1 4 ∧ M9 b 5 = M b1 5 ∧ M9 b 6 = M b1 6 ∧ M9 b 7 = M b1 7 ∧ M9 b 8 = M b1 8 := by
    have k5 : M5 b = up1 (M4 b) 4 (M b1 4) := by rw [h5, upr_eq, if_pos rfl, rb]
    have k6 : M6 b = up1 (M5 b) 5 (M b1 5) := by rw [h6, upr_eq, if_pos rfl, e5]
    have k7 : M7 b = up1 (M6 b) 6 (M b1 6) := by rw [h7, upr_eq, if_pos rfl, e6]
    have k8 : M8 b = up1 (M7 b) 7 (M b1 7) := by rw [h8, upr_eq, if_pos rfl, e7]
    have k9 : M9 b = up1 (M8 b) 8 (M b1 8) := by rw [h9, upr_eq, if_pos rfl, e8]
    rw [k9, k8, k7, k6, k5]
    simp [up1_eq]
  refine ⟨fun n σ hn hS => ⟨?_, fun h hh => ?_⟩, ?_⟩
  · rw [s9.1, s9.2.1, s9.2.2.1, s9.2.2.2.1, s9.2.2.2.2]; exact hS.1
  · rw [n9 _ (by omega), n9 _ (by omega), n9 _ (by omega), n9 _ (by omega), r1, r2, r3, r4, cp7 (by omega), cp7 (by omega), cp7 (by omega), cp7 (by omega)]
    exact hS.2 h hh
  · intro c hc
    rw [n9 c (by omega)]
    exact f4 c hc
theorem m_copies {N : Mm} {b0 l0 a b2 l2 c : Nat} (h0 : At shM NM b0 (.inr (0, l0))) (h2 : At shM NM b2 (.inr (0, l2))) (hl0 : l0 < 100000) (hl2 : l2 < 100000) (hne : b0 ≠ b2) (ha : a + 33 ≤ l0) (hc : c + 33 ≤ l2) :
    S_Mod_copies b0 l0 (a : Int) b2 l2 (c : Int) N (fun N' => N' = upr N b2 (fun j => if c ≤ j ∧ j < c + 33 then N b0 (a + (j - c)) else N b2 j)) := by
  refine e_Mod_copies b0 l0 _ b2 l2 _ N fun K hK => w_Mod_copies_0 hK b0 l0 h0 (by omega) _ b2 l2 h2 (by omega) _ N ?_
  have key : ∀ k, k ≤ 33 → ∀ N1 : Mm, N1 = upr N b2 (fun j => if c ≤ j ∧ j < c + k then N b0 (a + (j - c)) else N b2 j) → K NM RRM 3 [(0, vr b0), (1, vi (a : Int)), (2, vr b2), (3, vi (c : Int)), (4, vi (k : Int))] [] N1 := by
    refine up_ind ?_ ?_
    · intro N1 h1
      exact w_Mod_copies_3 hK b0 l0 h0 (by omega) b2 l2 h2 (by omega) _ _ _ N1 ⟨by decide, fun _ => h1, fun q => absurd (by decide) q⟩
    · intro k hk ih N1 h1
      refine w_Mod_copies_3 hK b0 l0 h0 (by omega) b2 l2 h2 (by omega) _ _ _ N1 ⟨by omega, fun q => by omega, fun q => ⟨by omega, by omega, ?_⟩⟩
      rintro N2 rfl
      refine ih _ ?_
      funext q
      rw [upr_eq, upr_eq]
      by_cases e : q = b2
      · rw [if_pos e, if_pos e]
        funext j
        rw [up1_eq, h1]
        simp only [upr_eq, if_neg hne, if_true]
        rw [show ((c : Int) + (k : Int)).toNat = c + k by omega, show ((a : Int) + (k : Int)).toNat = a + k by omega]
        by_cases ej : j = c + k
        · rw [if_pos ej, if_pos (by omega)]; congr 1; omega
        · rw [if_neg ej]
          by_cases cj : c ≤ j ∧ j < c + k
          · rw [if_pos cj, if_pos (by omega)]
          · rw [if_neg cj, if_neg (by omega)]
      · rw [if_neg e, if_neg e, h1, upr_eq, if_neg e]
  refine key 0 (by omega) N ?_
  funext q
  rw [upr_eq]
  split
  · rename_i e
    subst e
    funext j
    rw [if_neg (by omega)]
  · rfl
theorem c_remember {M : Mm} {nx d : Nat} (h1 : M 1 10 = (nx : Int)) (h2 : M 1 11 = (d : Int)) (hnx : nx < 16) (hd : d ≤ 16) :
    S_Main_remember M (fun M' => (∀ n σ, n ≤ 7 → RS n σ M 42 → RS n σ M' (121 + 5 * nx)) ∧ M' 1 10 = (((nx + 1) % 16 : Nat) : Int) ∧ M' 1 11 = ((min (d + 1) 16 : Nat) : Int) ∧ (∀ k, k ≠ 10 → k ≠ 11 → M' 1 k = M 1 k) ∧ FrC (fun c => c = 1 ∨ inS (121 + 5 * nx) c) M M') := by
  refine W_Main_remember M ?_
  rw [h1, Int.toNat_natCast]
  have hat : At shC NN (121 + 5 * nx) (.inl 5) := by have := ata5 (x := (nx : Int)) ⟨by omega, by omega⟩; rwa [Int.toNat_natCast] at this
  refine ⟨by omega, _, c_copyFrom hat atC_42 (by omega), ?_⟩
  rintro M1 ⟨hR, hf⟩
  have e1 : M1 1 = M 1 := hf 1 (by omega)
  rw [e1, h1]
  rintro M2 rfl
  have e2 : (upr M1 1 (up1 (M 1) 10 (remI ((nx : Int) + 1) 16))) 1 = up1 (M 1) 10 (remI ((nx : Int) + 1) 16) := by rw [upr_eq, if_pos rfl]
  have e3 : (upr M1 1 (up1 (M 1) 10 (remI ((nx : Int) + 1) 16))) 1 11 = (d : Int) := by rw [e2, up1_eq, if_neg (by omega)]; exact h2
  rw [e3, e2]
  refine ⟨by omega, ?_⟩
  rintro M3 rfl
  have er : remI ((nx : Int) + 1) 16 = (((nx + 1) % 16 : Nat) : Int) := remI_pos (a := nx + 1) (d := 16) (by omega) (by omega) (by omega)
  refine ⟨fun n σ hn hS => (hR n σ hn hS).fr (fun i hi => by rw [upr_eq, if_neg (by omega), upr_eq, if_neg (by omega)]), ?_, ?_, ?_, ?_⟩
  · rw [upr_eq, if_pos rfl, up1_eq, if_neg (by omega), up1_eq, if_pos rfl, er]
  · rw [upr_eq, if_pos rfl, up1_eq, if_pos rfl]; omega
  · intro k h10 h11
    rw [upr_eq, if_pos rfl, up1_eq, if_neg h11, up1_eq, if_neg h10]
  · exact ((hf.wk (q := fun c => c = 1 ∨ inS (121 + 5 * nx) c) (fun c hc => Or.inr hc)).tr (FrC.up (Or.inl rfl))).tr (FrC.up (Or.inl rfl))
theorem m_keeps {N : Mm} {d : Nat} (h1 : N 1 50 = (d : Int)) (hd : d ≤ 16) :
    S_Mod_keeps N (fun N' => N' 1 50 = ((min (d + 1) 16 : Nat) : Int) ∧ (∀ j, j < 528 → N' 37 j = if 33 * min d 15 ≤ j ∧ j < 33 * min d 15 + 33 then N 34 (j - 33 * min d 15) else if d = 16 then N 37 (j + 33) else N 37 j) ∧ FrM (fun c => c = 37) (fun k => k = 50) N N') := by
  refine e_Mod_keeps N fun K hK => w_Mod_keeps_0 hK N ?_
  have k49 : ∀ N1 : Mm, N1 1 50 = ((min d 15 : Nat) : Int) → (∀ j, j < 528 → N1 37 j = if d = 16 ∧ j < 495 then N 37 (j + 33) else N 37 j) → FrM (fun c => c = 37) (fun k => k = 50) N N1 → K NM RRM 49 [(0, vr 1)] [] N1 := by
    intro N1 c1 g1 f1
    refine w_Mod_keeps_49 hK N1 ?_
    have e33 : (33 : Int) * N1 1 50 = ((33 * min d 15 : Nat) : Int) := by rw [c1]; omega
    rw [e33]
    refine ⟨_, m_copies (a := 0) atM_34 atM_37 (by omega) (by omega) (by omega) (by omega) (by omega), ?_⟩
    rintro N2 rfl
    rintro N3 rfl
    refine ⟨?_, fun j hj => ?_, (f1.tr (FrM.up (c := 37) rfl (by omega))).tr (FrM.u1 rfl)⟩
    · rw [upr_eq, if_pos rfl, up1_eq, if_pos rfl, upr_eq, if_neg (by omega), c1]; omega
    · rw [upr_eq, if_neg (by omega), upr_eq, if_pos rfl]
      by_cases c : 33 * min d 15 ≤ j ∧ j < 33 * min d 15 + 33
      · rw [if_pos c, if_pos c, f1.1 34 (by omega) (by omega), Nat.zero_add]
      · rw [if_neg c, if_neg c, g1 j hj]
        by_cases e : d = 16
        · rw [if_pos ⟨e, by omega⟩, if_pos e]
        · rw [if_neg (fun z => e z.1), if_neg e]
  rw [h1]
  refine ⟨by omega, fun q => k49 N (by rw [h1]; omega) (fun j _ => by rw [if_neg (fun z => q (by omega))]) FrM.rf, fun q => ?_⟩
  have key : ∀ k, k ≤ 495 → ∀ N1 : Mm, N1 1 50 = (d : Int) → (∀ j, j < 528 → N1 37 j = if j < k then N 37 (j + 33) else N 37 j) → FrM (fun c => c = 37) (fun k => k = 50) N N1 → K NM RRM 11 [(0, vr 1), (1, vi (k : Int))] [] N1 := by
    refine up_ind ?_ ?_
    · intro N1 c1 g1 f1
      refine w_Mod_keeps_11 hK _ N1 ⟨by decide, fun _ => ?_, fun z => absurd (by decide) z⟩
      rintro N2 rfl
      refine k49 _ ?_ (fun j hj => ?_) (f1.tr (FrM.u1 rfl))
      · rw [upr_eq, if_pos rfl, up1_eq, if_pos rfl, c1]; omega
      · rw [upr_eq, if_neg (by omega), g1 j hj]
        by_cases c : j < 495
        · rw [if_pos c, if_pos ⟨by omega, c⟩]
        · rw [if_neg c, if_neg (fun z => c z.2)]
    · intro k hk ih N1 c1 g1 f1
      refine w_Mod_keeps_11 hK _ N1 ⟨by omega, fun z => by omega, fun _ => ⟨by omega, by omega, ?_⟩⟩
      rintro N2 rfl
      refine ih _ (by rw [upr_eq, if_neg (by omega)]; exact c1) (fun j hj => ?_) (f1.tr (FrM.up rfl (by omega)))
      rw [upr_eq, if_pos rfl, up1_eq, Int.toNat_natCast, show ((k : Int) + 33).toNat = k + 33 by omega]
      by_cases e : j = k
      · rw [if_pos e, g1 _ (by omega), if_neg (by omega), if_pos (by omega), e]
      · rw [if_neg e, g1 j hj]
        by_cases c : j < k
        · rw [if_pos c, if_pos (by omega)]
        · rw [if_neg c, if_neg (by omega)]
  exact key 0 (by omega) N h1 (fun j _ => by rw [if_neg (by omega)]) FrM.rf
theorem SimU.rem {n B : Nat} {M N M1 N1 : Mm} {nx d : Nat} (hn : n ≤ 7) (h : SimU n B M N) (hN : SimN n B M N) (h1 : M 1 10 = (nx : Int)) (h2 : M 1 11 = (d : Int))
    (a1 : ∀ n σ, n ≤ 7 → RS n σ M 42 → RS n σ M1 (121 + 5 * nx)) (a2 : M1 1 10 = (((nx + 1) % 16 : Nat) : Int)) (a3 : M1 1 11 = ((min (d + 1) 16 : Nat) : Int)) (a4 : FrC (fun c => c = 1 ∨ inS (121 + 5 * nx) c) M M1)
    (b1 : N1 1 50 = ((min (d + 1) 16 : Nat) : Int)) (b2 : ∀ j, j < 528 → N1 37 j = if 33 * min d 15 ≤ j ∧ j < 33 * min d 15 + 33 then N 34 (j - 33 * min d 15) else if d = 16 then N 37 (j + 33) else N 37 j) : SimU n B M1 N1 := by
  obtain ⟨nx', d', g1, g2, g3, g4, g5, g6⟩ := h
  have en : nx' = nx := by omega
  have ed : d' = d := by omega
  subst en; subst ed
  refine ⟨(nx' + 1) % 16, min (d' + 1) 16, a2, a3, b1, Nat.mod_lt _ (by omega), by omega, fun i hi => ?_⟩
  by_cases hl : i = min d' 15
  · have e : ∀ j, j < 33 → N1 37 (33 * i + j) = N 34 j := fun j hj => by
      rw [b2 _ (by omega), if_pos (by omega)]; congr 1; omega
    have ei : ((nx' + 1) % 16 + 16 - min (d' + 1) 16 + i) % 16 = nx' := by omega
    rw [ei]
    exact ⟨(a1 n (N 34) hn hN.1).cg hn e, hN.2.cg hn e⟩
  · by_cases hd : d' = 16
    · have e : ∀ j, j < 33 → N1 37 (33 * i + j) = N 37 (33 * (i + 1) + j) := fun j hj => by
        rw [b2 _ (by omega), if_neg (by omega), if_pos hd]; congr 1; omega
      have g := g6 (i + 1) (by omega)
      have ei : ((nx' + 1) % 16 + 16 - min (d' + 1) 16 + i) % 16 = (nx' + 16 - d' + (i + 1)) % 16 := by omega
      rw [ei]
      have hm := Nat.mod_lt (nx' + 16 - d' + (i + 1)) (show 0 < 16 by omega)
      have hx : (nx' + 16 - d' + (i + 1)) % 16 ≠ nx' := by omega
      exact ⟨(g.1.frC a4 (fun q hq => by omega)).cg hn e, g.2.cg hn e⟩
    · have e : ∀ j, j < 33 → N1 37 (33 * i + j) = N 37 (33 * i + j) := fun j hj => by
        rw [b2 _ (by omega), if_neg (by omega), if_neg hd]
      have g := g6 i (by omega)
      have ei : ((nx' + 1) % 16 + 16 - min (d' + 1) 16 + i) % 16 = (nx' + 16 - d' + i) % 16 := by omega
      rw [ei]
      have hm := Nat.mod_lt (nx' + 16 - d' + i) (show 0 < 16 by omega)
      have hx : (nx' + 16 - d' + i) % 16 ≠ nx' := by omega
      exact ⟨(g.1.frC a4 (fun q hq => by omega)).cg hn e, g.2.cg hn e⟩
