theorem c_law1 {tx : TX} {pr : Bool} {p b k : Nat} {D D' : DT} {M : Mm} {bit n : Int} {told : Prop} {res : Sum FLT (DT × Nat)} {mk : Nat × PRS → DT} (hW : WX tx) (hp : p ≤ tx.2) (hT : TpC tx p M) (hb : At shC NN b (.inl 7)) (hk : k = 8 ∨ k = 11) (hat : At shC NN (b + k) (.inl 0)) (h0 : M (b + k) 0 = zo pr)
    (h13 : M b 13 = n) (ht : andI n bit = 0 ↔ ¬ told) (ho : ¬ told → orI n bit = n + bit)
    (hr1 : told → res = .inl (3, tb_ tx p)) (hr2 : ¬ told → res = bnd (qE tx (pPart tx pr 5) (te_ tx p)) fun s => .inr (mk (te_ tx p, s), s.1))
    (hD' : ¬ told → ∀ s M', M' b = up1 (M b) 13 (n + bit) → M' (b + k) 0 = M (b + k) 0 → M' (b + k) 3 = (s.2.1.length : Int) → (∀ i, i < s.2.1.length → M' (b + k + 1) i = s.2.1.getD i 0) → (∀ i, 1 ≤ i → i < 14 → i ≠ k → i ≠ k + 1 → M' (b + i) = M (b + i)) → DC (mk (te_ tx p, s)) b M') :
    ∃ P4 : Int → Mm → Prop, S_Town_takeOnce b 2 bit M P4 ∧ ∀ (r4 : Int) (M4 : Mm), P4 r4 M4 → (rng r4) ∧ (r4 = 0 → (PoD tx b M res 0 M4)) ∧ (r4 ≠ 0 → (∃ P5 : Int → Mm → Prop, S_Law_readFrom (b + k) 2 M4 P5 ∧ ∀ (r5 : Int) (M5 : Mm), P5 r5 M5 → (rng r5) ∧ (r5 = 0 → (PoD tx b M res 0 M5)) ∧ (r5 ≠ 0 → (PoD tx b M res 1 M5)))) := by
  have hb4 := twn hb
  have t1 := te_le hp
  refine ⟨_, c_takeOnce (told := told) hW hp hT hb h13 ht ho, ?_⟩
  rintro r M1 ⟨s1, u1, u2⟩
  by_cases htold : told
  · obtain ⟨rfl, f1, e⟩ := u1 htold
    exact ⟨by decide, fun _ => PoD_f (f := (3, tb_ tx p)) (hr1 htold) (f1.wk (fun c hc => Or.inl hc)) s1 e, fun z => absurd rfl z⟩
  · obtain ⟨rfl, hT1, e1, f1⟩ := u2 htold
    refine ⟨by decide, fun z => by omega, fun _ => ⟨_, c_lawRead (pr := pr) hW hat t1.2 hT1 (by rw [f1 _ (by omega)]; exact h0), ?_⟩⟩
    rintro r M2 ⟨hr, M3, f3, z3, f4, z4, s4, v1, v2⟩
    have fr : FrC (inT b) M M2 := ((f1.wk (fun c hc => by omega)).tr (f3.wk (fun c hc => by omega))).tr (f4.wk (fun c hc => by omega))
    have s2 : M2 2 1 = M 2 1 := by rw [s4, f3 2 (by omega), s1]
    have kp : kpT b M M2 := by
      rcases hk with rfl | rfl
      · exact ⟨by rw [z4, z3, f1 _ (by omega)], by rw [f4 _ (by omega), f3 _ (by omega), f1 _ (by omega)]⟩
      · exact ⟨by rw [f4 _ (by omega), f3 _ (by omega), f1 _ (by omega)], by rw [z4, z3, f1 _ (by omega)]⟩
    cases c : qE tx (pPart tx pr 5) (te_ tx p) with
    | inl f =>
      obtain ⟨rfl, e⟩ := v1 f c
      exact ⟨by decide, fun _ => PoD_f' (f := f) (by rw [hr2 htold, bnd_l c]) fr s2 kp e, fun z => absurd rfl z⟩
    | inr s =>
      obtain ⟨rfl, hT2, ap⟩ := v2 s c
      refine ⟨by decide, fun z => by omega, fun _ => PoD_r' (x := (mk (te_ tx p, s), s.1)) (by rw [hr2 htold, bnd_r c]) fr s2 kp hT2 ?_⟩
      refine hD' htold s M2 ?_ ?_ ?_ (fun i hi => ?_) (fun i h1 h2 h3 h4 => ?_)
      · rw [f4 b (by omega), f3 b (by omega), e1]
      · rw [z4, z3, f1 _ (by omega)]
      · rw [ap.1, Nat.zero_add]
      · have := ap.2.2 i hi
        rw [Nat.zero_add] at this
        exact this
      · rw [f4 _ (by omega), f3 _ (by omega), f1 _ (by omega)]
theorem c_readLine {tx : TX} {p b : Nat} {D : DT} {M : Mm} (hW : WX tx) (hp : p ≤ tx.2) (hT : TpC tx p M) (hb : At shC NN b (.inl 7)) (hD : DC D b M) (hw : WD tx D) : S_Town_readLine b 2 M (PoD tx b M (rdL tx D p)) := by
  have hb4 := twn hb
  have hat := at_t hb
  have t1 := te_le hp
  have hlt := wo_lt tx p
  obtain ⟨o1, o2, o4, o8, o16, p1, p2, p4, p8, p16⟩ := onc_f D
  have h13 : M b 13 = (onc D : Int) := hD.1.2.2.2.2
  have tab : ∀ o, o < 27 → (wS.getD o 0 = 6 ↔ o = 1) ∧ (wS.getD o 0 = 7 ↔ o = 5) ∧ (wS.getD o 0 = 8 ↔ o = 6) ∧ (wS.getD o 0 = 9 ↔ o = 7) ∧ (wS.getD o 0 = 10 ↔ o = 8) ∧ (wS.getD o 0 = 11 ↔ o = 9) ∧ (wS.getD o 0 = 12 ↔ o = 10) := by decide +kernel
  obtain ⟨q1, q5, q6, q7, q8, q9, q10⟩ := tab _ hlt
  refine W_Town_readLine b hb 2 atC_2 M ⟨_, hT.2.2.2.2.2.1, hlt, _, W_JEnum_ordinal _ hlt M (P := fun r M' => r = (wo_ tx p : Int) ∧ M' = M) ⟨rfl, rfl⟩, ?_⟩
  rintro r M1 ⟨rfl, rfl⟩
  rw [Int.toNat_natCast]
  have nb : ∀ b : Bool, b = false ↔ ¬ b = true := by decide
  refine ⟨by omega, fun z => ?_, fun z => ?_, fun z => ?_, fun z => ?_, fun z => ?_, fun z => ?_, fun z => ?_, fun z => ?_⟩
  · have hres : rdL tx D p = rdHouse tx D p := by unfold rdL; rw [if_pos (q1.mp z)]
    refine ⟨_, c_readHouse hW hp hT hb hD hw, fun r M2 hP => ⟨?_, ?_⟩⟩
    · cases c : rdHouse tx D p with
      | inl f => exact Or.inl (hP.2.2.1 f c).1
      | inr x => exact Or.inr (hP.2.2.2 x c).1
    · rw [hres]; exact hP
  · have h5 := q5.mp z
    have hres : rdL tx D p = rdShuns tx D p := by unfold rdL; rw [if_neg (by omega), if_pos h5]
    refine ⟨_, c_readShuns hW hp hT hb hD hw, fun r M2 hP => ⟨?_, ?_⟩⟩
    · cases c : rdShuns tx D p with
      | inl f => exact Or.inl (hP.2.2.1 f c).1
      | inr x => exact Or.inr (hP.2.2.2 x c).1
    · rw [hres]; exact hP
  · have h6 := q6.mp z
    have hres : rdL tx D p = rdGap tx D p := by unfold rdL; rw [if_neg (by omega), if_neg (by omega), if_pos h6]
    refine c_one (D := fun _ => D) (D' := setG D) (k := 10) (lo := 1) (hi := 20) (bit := 1) (told := (dga D).2 = true) (S := S_Town_readGap) hW hp hT hb (by decide) (by decide) (Or.inl rfl) h13 (by rw [o1, nb]) (fun y => p1 ((nb _).mpr y)) (fun M4 P h => W_Town_readGap b hb 2 atC_2 M4 h) (fun y => ?_) (fun y => ?_) (fun y v M' hv e0 co => ?_)
    · rw [hres]; unfold rdGap; rw [if_pos y]
    · rw [hres]; unfold rdGap; rw [if_neg y]
    · refine DC_set hD rfl rfl rfl rfl rfl rfl rfl rfl rfl rfl ?_ ?_ ?_ ?_ ?_ co <;> rw [e0]
      · simp [up1_eq]
      · simp [up1_eq]; rfl
      · simp [up1_eq]; exact hD.1.2.2.1
      · simp [up1_eq]
      · simp [up1_eq]
        show _ = (((if true = true then 1 else 0) + (if 0 < (drn D).1 then 2 else 0) + (if (dpr D).2 = true then 4 else 0) + (if (dlp D).isSome = true then 8 else 0) + (if (dlq D).isSome = true then 16 else 0) : Nat) : Int)
        unfold onc
        rw [if_neg y, if_pos rfl]; omega
  · have h7 := q7.mp z
    have hres : rdL tx D p = rdRains tx D p := by unfold rdL; rw [if_neg (by omega), if_neg (by omega), if_neg (by omega), if_pos h7]
    refine ⟨_, c_takeOnce (told := 0 < (drn D).1) hW hp hT hb h13 o2 p2, ?_⟩
    rintro r M2 ⟨s2, u1, u2⟩
    by_cases htold : 0 < (drn D).1
    · obtain ⟨rfl, f1, e⟩ := u1 htold
      refine ⟨by decide, fun _ => PoD_f (f := (3, tb_ tx p)) ?_ (f1.wk (fun c hc => Or.inl hc)) s2 e, fun y => absurd rfl y⟩
      rw [hres]; unfold rdRains; rw [if_pos htold]
    · obtain ⟨rfl, hT2, e2, f2⟩ := u2 htold
      have hrr : rdL tx D p = bnd (rdRn tx 13 0 (drn D).2 (te_ tx p)) fun a => .inr (setR D a.1.1 a.1.2, a.2) := by rw [hres]; unfold rdRains; rw [if_neg htold]
      refine ⟨by decide, fun y => by omega, fun _ => ⟨_, c_readRains hW t1.2 hT2 hb hD htold e2 rfl f2 s2, fun r M3 hP => ?_⟩⟩
      rw [hrr]
      have hr : r = 0 ∨ r = 1 := by
        cases c : (bnd (rdRn tx 13 0 (drn D).2 (te_ tx p)) fun a => (.inr (setR D a.1.1 a.1.2, a.2) : Sum FLT (DT × Nat))) with
        | inl f => exact Or.inl (hP.2.2.1 f c).1
        | inr x => exact Or.inr (hP.2.2.2 x c).1
      refine ⟨by omega, fun y => ?_, fun y => ?_⟩
      · rw [y] at hP; exact hP
      · rw [show r = 1 by omega] at hP; exact hP
  · have h8 := q8.mp z
    have hres : rdL tx D p = rdPri tx D p := by unfold rdL; rw [if_neg (by omega), if_neg (by omega), if_neg (by omega), if_neg (by omega), if_pos h8]
    refine c_one (D := fun _ => D) (D' := setP D) (k := 11) (lo := 0) (hi := 99) (bit := 4) (told := (dpr D).2 = true) (S := S_Town_readPrice) hW hp hT hb (by decide) (by decide) (Or.inr rfl) h13 (by rw [o4, nb]) (fun y => p4 ((nb _).mpr y)) (fun M4 P h => W_Town_readPrice b hb 2 atC_2 M4 h) (fun y => ?_) (fun y => ?_) (fun y v M' hv e0 co => ?_)
    · rw [hres]; unfold rdPri; rw [if_pos y]
    · rw [hres]; unfold rdPri; rw [if_neg y]
    · refine DC_set hD rfl rfl rfl rfl rfl rfl rfl rfl rfl rfl ?_ ?_ ?_ ?_ ?_ co <;> rw [e0]
      · simp [up1_eq]
      · simp [up1_eq]; exact hD.1.2.1
      · simp [up1_eq]; rfl
      · simp [up1_eq]
      · simp [up1_eq]
        show _ = (((if (dga D).2 = true then 1 else 0) + (if 0 < (drn D).1 then 2 else 0) + (if true = true then 4 else 0) + (if (dlp D).isSome = true then 8 else 0) + (if (dlq D).isSome = true then 16 else 0) : Nat) : Int)
        unfold onc
        rw [if_neg y, if_pos (show true = true from rfl)]; omega
  · have h9 := q9.mp z
    have hres : rdL tx D p = rdLp tx D p := by unfold rdL; rw [if_neg (by omega), if_neg (by omega), if_neg (by omega), if_neg (by omega), if_neg (by omega), if_pos h9]
    refine c_law1 (D := D) (D' := D) (pr := false) (k := 8) (bit := 8) (told := (dlp D).isSome = true) (mk := setLp D) hW hp hT hb (Or.inl rfl) hat.2.2.2.1 hD.2.2.2.2.2.1 h13 (by rw [o8, nb]) (fun y => p8 ((nb _).mpr y)) (fun y => ?_) (fun y => ?_) (fun y s M' e0 ez e3 ec co => ?_)
    · rw [hres]; unfold rdLp; rw [if_pos y]
    · rw [hres]; unfold rdLp; rw [if_neg y]
    · obtain ⟨d1, d2, d3, d4, d5, d6, d7⟩ := hD
      refine ⟨?_, fun q hq => ?_, by rw [co 7 (by omega) (by omega) (by omega) (by omega)]; exact d3, ⟨fun x => (by cases x), fun x hx => by cases hx; exact ⟨e3, ec⟩⟩, d5.fr (co 11 (by omega) (by omega) (by omega) (by omega)) (co 12 (by omega) (by omega) (by omega) (by omega)), by rw [ez]; exact d6, by rw [co 11 (by omega) (by omega) (by omega) (by omega)]; exact d7⟩
      · rw [e0]
        refine ⟨by simp [up1_eq]; exact d1.1, by simp [up1_eq]; exact d1.2.1, by simp [up1_eq]; exact d1.2.2.1, by simp only [up1_eq]; exact d1.2.2.2.1, ?_⟩
        simp [up1_eq]
        show _ = (((if (dga D).2 = true then 1 else 0) + (if 0 < (drn D).1 then 2 else 0) + (if (dpr D).2 = true then 4 else 0) + (if true = true then 8 else 0) + (if (dlq D).isSome = true then 16 else 0) : Nat) : Int)
        unfold onc
        rw [if_neg y, if_pos (show true = true from rfl)]; omega
      · rw [co 1 (by omega) (by omega) (by omega) (by omega), co 2 (by omega) (by omega) (by omega) (by omega), co 3 (by omega) (by omega) (by omega) (by omega), co 4 (by omega) (by omega) (by omega) (by omega), co 5 (by omega) (by omega) (by omega) (by omega), co 6 (by omega) (by omega) (by omega) (by omega)]
        exact d2 q hq
  · have h10 := q10.mp z
    have hres : rdL tx D p = rdLq tx D p := by unfold rdL; rw [if_neg (by omega), if_neg (by omega), if_neg (by omega), if_neg (by omega), if_neg (by omega), if_neg (by omega), if_pos h10]
    refine c_law1 (D := D) (D' := D) (pr := true) (k := 11) (bit := 16) (told := (dlq D).isSome = true) (mk := setLq D) hW hp hT hb (Or.inr rfl) hat.2.2.2.2 hD.2.2.2.2.2.2 h13 (by rw [o16, nb]) (fun y => p16 ((nb _).mpr y)) (fun y => ?_) (fun y => ?_) (fun y s M' e0 ez e3 ec co => ?_)
    · rw [hres]; unfold rdLq; rw [if_pos y]
    · rw [hres]; unfold rdLq; rw [if_neg y]
    · obtain ⟨d1, d2, d3, d4, d5, d6, d7⟩ := hD
      refine ⟨?_, fun q hq => ?_, by rw [co 7 (by omega) (by omega) (by omega) (by omega)]; exact d3, d4.fr (co 8 (by omega) (by omega) (by omega) (by omega)) (co 9 (by omega) (by omega) (by omega) (by omega)), ⟨fun x => (by cases x), fun x hx => by cases hx; exact ⟨e3, ec⟩⟩, by rw [co 8 (by omega) (by omega) (by omega) (by omega)]; exact d6, by rw [ez]; exact d7⟩
      · rw [e0]
        refine ⟨by simp [up1_eq]; exact d1.1, by simp [up1_eq]; exact d1.2.1, by simp [up1_eq]; exact d1.2.2.1, by simp only [up1_eq]; exact d1.2.2.2.1, ?_⟩
        simp [up1_eq]
        show _ = (((if (dga D).2 = true then 1 else 0) + (if 0 < (drn D).1 then 2 else 0) + (if (dpr D).2 = true then 4 else 0) + (if (dlp D).isSome = true then 8 else 0) + (if true = true then 16 else 0) : Nat) : Int)
        unfold onc
        rw [if_neg y, if_pos (show true = true from rfl)]; omega
      · rw [co 1 (by omega) (by omega) (by omega) (by omega), co 2 (by omega) (by omega) (by omega) (by omega), co 3 (by omega) (by omega) (by omega) (by omega), co 4 (by omega) (by omega) (by omega) (by omega), co 5 (by omega) (by omega) (by omega) (by omega), co 6 (by omega) (by omega) (by omega) (by omega)]
        exact d2 q hq
  · refine ⟨_, c_fail (k := 1) hT, ?_⟩
    rintro r M2 ⟨rfl, a, b', c⟩
    refine ⟨Or.inl rfl, PoD_f (f := (1, tb_ tx p)) ?_ (c.wk (fun c hc => Or.inl hc)) b' a⟩
    unfold rdL
    rw [if_neg (fun y => z.1 (q1.mpr y)), if_neg (fun y => z.2.1 (q5.mpr y)), if_neg (fun y => z.2.2.1 (q6.mpr y)), if_neg (fun y => z.2.2.2.1 (q7.mpr y)), if_neg (fun y => z.2.2.2.2.1 (q8.mpr y)), if_neg (fun y => z.2.2.2.2.2.1 (q9.mpr y)), if_neg (fun y => z.2.2.2.2.2.2 (q10.mpr y))]
theorem c_forgetAll {b : Nat} {M : Mm} (hb : At shC NN b (.inl 7)) (h8 : M (b + 8) 0 = 0) (h11 : M (b + 11) 0 = 1) : S_Town_forgetAll b M (fun M' => DC D0 b M' ∧ FrC (fun c => b ≤ c ∧ c ≤ b + 13) M M') := by
  have hb4 := twn hb
  have hat := at_t hb
  have lf : ∀ (b' : Nat) (M0 : Mm), At shC NN b' (.inl 0) → S_Law_forget b' M0 (fun M' => M' = upr M0 b' (up1 (M0 b') 3 0)) := fun b' M0 h => W_Law_forget b' h M0 (fun M1 e => e)
  refine W_Town_forgetAll b hb M ?_
  intro M1 g1 M2 g2 M3 g3 M4 g4 M5 g5
  refine ⟨_, lf (b + 8) M5 hat.2.2.2.1, ?_⟩
  intro M6 g6
  refine ⟨_, lf (b + 11) M6 hat.2.2.2.2, ?_⟩
  intro M7 g7 M8 g8
  have eb : M8 b = up1 (up1 (up1 (up1 (up1 (M b) 9 0) 10 5) 11 3) 12 1) 13 0 := by
    rw [g8, upr_eq, if_pos rfl, g7, upr_eq, if_neg (by omega), g6, upr_eq, if_neg (by omega), g5, upr_eq, if_pos rfl, g4, upr_eq, if_neg (by omega), g3, upr_eq, if_pos rfl, g2, upr_eq, if_pos rfl, g1, upr_eq, if_pos rfl]
  have e7 : M8 (b + 7) 0 = 1 := by
    rw [g8, upr_eq, if_neg (by omega), g7, upr_eq, if_neg (by omega), g6, upr_eq, if_neg (by omega), g5, upr_eq, if_neg (by omega), g4, upr_eq, if_pos rfl, up1_eq, if_pos rfl]
  have m58 : M5 (b + 8) = M (b + 8) := by rw [g5, upr_eq, if_neg (by omega), g4, upr_eq, if_neg (by omega), g3, upr_eq, if_neg (by omega), g2, upr_eq, if_neg (by omega), g1, upr_eq, if_neg (by omega)]
  have m611 : M6 (b + 11) = M (b + 11) := by rw [g6, upr_eq, if_neg (by omega), g5, upr_eq, if_neg (by omega), g4, upr_eq, if_neg (by omega), g3, upr_eq, if_neg (by omega), g2, upr_eq, if_neg (by omega), g1, upr_eq, if_neg (by omega)]
  have e8 : M8 (b + 8) = up1 (M (b + 8)) 3 0 := by
    rw [g8, upr_eq, if_neg (by omega), g7, upr_eq, if_neg (by omega), g6, upr_eq, if_pos rfl, m58]
  have e11 : M8 (b + 11) = up1 (M (b + 11)) 3 0 := by
    rw [g8, upr_eq, if_neg (by omega), g7, upr_eq, if_pos rfl, m611]
  refine ⟨⟨?_, fun h hh => absurd hh (Nat.not_lt_zero _), ⟨fun _ => e7, fun i hi => absurd hi (Nat.not_lt_zero _)⟩, ⟨fun _ => by rw [e8, up1_eq, if_pos rfl], fun x hx => by cases hx⟩, ⟨fun _ => by rw [e11, up1_eq, if_pos rfl], fun x hx => by cases hx⟩, by rw [e8, up1_eq, if_neg (by omega)]; exact h8, by rw [e11, up1_eq, if_neg (by omega)]; exact h11⟩, ?_⟩
  · rw [eb]
    exact ⟨rfl, rfl, rfl, rfl, rfl⟩
  · rw [g8, g7, g6, g5, g4, g3, g2, g1]
    exact (((((((FrC.up (by omega)).tr (FrC.up (by omega))).tr (FrC.up (by omega))).tr (FrC.up (by omega))).tr (FrC.up (by omega))).tr (FrC.up (by omega))).tr (FrC.up (by omega))).tr (FrC.up (by omega))
theorem c_readTown {tx : TX} {b : Nat} {M : Mm} (hW : WX tx) (hT : TpC tx 0 M) (hb : At shC NN b (.inl 7)) (h8 : M (b + 8) 0 = 0) (h11 : M (b + 11) 0 = 1) : S_Town_readFrom b 2 M (fun r M' => FrC (inT b) M M' ∧ (M' 2 1 = M 2 1 ∧ kpT b M M') ∧ (∀ f, rdTown tx 1000 D0 0 = .inl f → r = 0 ∧ M' 2 10 = (f.1 : Int) + 16 * (f.2 : Int)) ∧ (∀ D, rdTown tx 1000 D0 0 = .inr D → r = 1 ∧ DC D b M' ∧ WD tx D)) := by
  have hb4 := twn hb
  obtain ⟨R, hR⟩ : ∃ R, R = rdTown tx 1000 D0 0 := ⟨_, rfl⟩
  rw [← hR]
  refine e_Town_readFrom b 2 M fun K hK => w_Town_readFrom_0 hK b hb 2 atC_2 M ⟨_, c_forgetAll hb h8 h11, ?_⟩
  rintro M1 ⟨hD1, f1⟩
  have key : ∀ (k i : Nat) (D : DT) (p : Nat) (M2 : Mm), k + i = 1000 → p ≤ tx.2 → TpC tx p M2 → DC D b M2 → WD tx D → FrC (inT b) M M2 → (M2 2 1 = M 2 1 ∧ kpT b M M2) → R = rdTown tx k D p → K NN RRC 6 [(0, vr b), (1, vr 2), (2, vi (i : Int))] [] M2 := by
    intro k
    induction k with
    | zero =>
      intro i D p M2 hk hp hT2 hD hw fr s2 he
      rw [rdTown] at he
      exact w_Town_readFrom_6 hK b hb 2 atC_2 _ M2 ⟨by omega, fun _ => ⟨fr, s2, fun f hf => (by rw [he] at hf; cases hf), fun D' hD' => by rw [he] at hD'; cases hD'; exact ⟨rfl, hD, hw⟩⟩, fun z => by omega⟩
    | succ k ih =>
      intro i D p M2 hk hp hT2 hD hw fr s2 he
      rw [rdTown] at he
      have htk := tk_le (tx := tx) (p := p)
      refine w_Town_readFrom_6 hK b hb 2 atC_2 _ M2 ?_
      rw [hT2.2.2.2.2.1]
      refine ⟨by omega, fun z => by omega, fun _ => ⟨by omega, fun z => ?_, fun z => ⟨_, c_readLine hW hp hT2 hb hD hw, ?_⟩⟩⟩
      · rw [if_pos (by omega)] at he
        exact ⟨fr, s2, fun f hf => (by rw [he] at hf; cases hf), fun D' hD' => by rw [he] at hD'; cases hD'; exact ⟨rfl, hD, hw⟩⟩
      · rw [if_neg (by omega)] at he
        rintro r M3 ⟨f3, ⟨s3, kp3⟩, u1, u2⟩
        have kp23 : kpT b M M3 := ⟨kp3.1.trans s2.2.1, kp3.2.trans s2.2.2⟩
        cases c : rdL tx D p with
        | inl f =>
          obtain ⟨rfl, e⟩ := u1 f c
          rw [bnd_l c] at he
          exact ⟨by decide, fun _ => ⟨fr.tr f3, ⟨by rw [s3, s2.1], kp23⟩, fun f' hf => by rw [he] at hf; cases hf; exact ⟨rfl, e⟩, fun D' hD' => (by rw [he] at hD'; cases hD')⟩, fun y => absurd rfl y⟩
        | inr x =>
          obtain ⟨rfl, hT3, hD3⟩ := u2 x c
          have wx := rdL_w hw hp c
          rw [bnd_r c] at he
          refine ⟨by decide, fun y => by omega, fun _ => ⟨_, c_takeSign hW wx.2.2 hT3 (by decide), ?_⟩⟩
          rintro r M4 ⟨v1, v2⟩
          cases c4 : isS_ tx x.2 59
          · obtain ⟨rfl, y1, y2, y3⟩ := v2 c4
            rw [c4, if_neg Bool.false_ne_true] at he
            exact ⟨by decide, fun y => absurd rfl y, fun _ => ⟨(fr.tr f3).tr (y3.wk (fun c hc => Or.inl hc)), ⟨by rw [y2, s3, s2.1], by rw [y3 _ (by omega)]; exact kp23.1, by rw [y3 _ (by omega)]; exact kp23.2⟩, fun f' hf => by rw [he] at hf; cases hf; exact ⟨rfl, y1⟩, fun D' hD' => (by rw [he] at hD'; cases hD')⟩⟩
          · obtain ⟨rfl, hT4, f4⟩ := v1 c4
            rw [c4, if_pos rfl] at he
            refine ⟨by decide, fun _ => ih (i + 1) x.1 (te_ tx x.2) M4 (by omega) (te_le wx.2.2).2 hT4 (hD3.fr (fun i hi => f4.1 _ (by omega))) wx.1 ((fr.tr f3).tr (f4.1.wk (fun c hc => Or.inl hc))) ⟨by rw [f4.2.1, s3, s2.1], by rw [f4.1 _ (by omega)]; exact kp23.1, by rw [f4.1 _ (by omega)]; exact kp23.2⟩ he, fun y => by omega⟩
  exact key 1000 0 D0 0 M1 rfl (by omega) (hT.fr (f1 2 (by omega)) (f1 3 (by omega))) hD1 (WD0 tx) (f1.wk (fun c hc => Or.inr hc)) ⟨by rw [f1 2 (by omega)], by rw [hD1.2.2.2.2.2.1, h8], by rw [hD1.2.2.2.2.2.2, h11]⟩ hR
