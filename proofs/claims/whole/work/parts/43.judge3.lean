def s0F (n : Nat) (N : Mm) : Nat → Int := fun j => if j < 33 then st0 n N j else N 34 j
theorem s0F_in {n : Nat} {N : Mm} {j : Nat} (h : j < 33) : s0F n N j = st0 n N j := by unfold s0F; rw [if_pos h]
def vJudged (t : TT) (N : Mm) (L : Nat) (x : Int) : Int := if x = 0 then (jdg t (N 27) (N 28) (N 29) (s0F (tn t) N) L).2.1 else if x = 1 then (jdg t (N 27) (N 28) (N 29) (s0F (tn t) N) L).2.2 else (jdg t (N 27) (N 28) (N 29) (s0F (tn t) N) L).1 3
theorem c_judged {t : TT} {tb B L : Nat} {M N : Mm} {x : Int} (hx : 0 ≤ x ∧ x ≤ 2) (h : Sim t tb B M N) (hL : N 26 0 = (L : Int)) : S_Main_judged x M (PC tb M (vJudged t N L x)) := by
  obtain ⟨hW, hT, hS, hN, hP, hY, -⟩ := h
  have hn := hW.1
  have htb := hT.1
  obtain ⟨L', y1, y2, y3, y4⟩ := hY
  have eL : L' = L := by omega
  subst eL
  refine W_Main_judged _ M ⟨by omega, fun z => by omega, fun _ => ⟨by omega, fun _ => ?_, fun z => by omega⟩⟩
  refine ⟨_, c_copyFrom atC_53 atC_36 (by omega), ?_⟩
  rintro M1 ⟨hc, hf⟩
  have e47 : ∀ i, i < 4 → M1 (47 + i) = M (47 + i) := fun i hi => hf _ (by omega)
  refine ⟨tb, by rw [hf 1 (by omega)]; exact hT.2.1, at_tb htb, _, c_judge (D := N 27) (H := N 28) (X := N 29) (at_tb htb) atC_47 atC_53 (fun i j hi hj => by omega) (by omega) (hT.2.2.2.1.fr (fun i _ _ => hf _ (by omega))) hW ((hc _ _ hn hS.1).cg hn (fun i hi => s0F_in hi)) (hS.2.cg hn (fun i hi => s0F_in hi)) (by omega) (by rw [hf 47 (by omega)]; exact y1) y3 ?_ ?_ ?_ ?_, ?_⟩
  · intro i hi
    obtain ⟨z1, z2, z3, z4, z5⟩ := y4 i hi
    rw [Nat.mul_zero, Nat.zero_add] at z1 z3 z4 z5
    rw [z1] at z2 z3 z4 z5
    exact ⟨z2, fun q => by have := z3 q; omega, fun q => by have := z4 q; omega, fun q => by have := z5 q; omega⟩
  · intro i hi
    rw [hf _ (by omega)]
    have := (y4 i hi).1
    rwa [Nat.mul_zero, Nat.zero_add] at this
  · intro i hi q
    obtain ⟨z1, z2, z3, z4, z5⟩ := y4 i hi
    rw [Nat.mul_zero, Nat.zero_add] at z1 z3
    rw [hf _ (by omega)]
    exact (z3 (by omega)).1
  · intro i hi q
    obtain ⟨z1, z2, z3, z4, z5⟩ := y4 i hi
    rw [Nat.mul_zero, Nat.zero_add] at z1 z4 z5
    rw [hf _ (by omega)]
    rcases q with q | q
    · exact (z4 (by omega)).1
    · exact (z5 (by omega)).1
  · rintro M2 ⟨g1, g2, g3, g4⟩
    have hF : FrC (scC tb) M M2 := FrC.tr (hf.wk (fun c hc => by omega)) (g4.wk (fun c hc => by omega))
    unfold vJudged
    refine ⟨by omega, fun a => ⟨by omega, fun b => ⟨?_, hF⟩, fun b => ⟨?_, hF⟩⟩, fun a => ⟨?_, hF⟩⟩
    · rw [if_neg b, if_pos (by omega)]; exact g3
    · rw [if_pos b]; exact g2
    · rw [if_neg (by omega), if_neg (by omega)]; exact g1.1.2.2.2.1
theorem m_judged {t : TT} {tb B L : Nat} {M N : Mm} {x : Int} (hx : 0 ≤ x ∧ x ≤ 2) (h : Sim t tb B M N) (hL : N 26 0 = (L : Int)) : S_Mod_judged x N (PN N (vJudged t N L x)) := by
  obtain ⟨hW, hT, hS, hN, hP, hY, -⟩ := h
  have hn := hW.1
  obtain ⟨L', y1, y2, y3, y4⟩ := hY
  have eL : L' = L := by omega
  subst eL
  have ho : ∀ i, i < L' → okL (tn t) (N 27 i) (N 28 i) (N 29 i) := by
    intro i hi
    obtain ⟨z1, z2, z3, z4, z5⟩ := y4 i hi
    rw [Nat.mul_zero, Nat.zero_add] at z1 z3 z4 z5
    rw [z1] at z2 z3 z4 z5
    exact ⟨z2, fun q => by have := z3 q; omega, fun q => by have := z4 q; omega, fun q => by have := z5 q; omega⟩
  have hw0 : WF (tn t) 0 (s0F (tn t) N) := hS.2.cg hn (fun i hi => s0F_in hi)
  refine e_Mod_judged _ N fun K hK => w_Mod_judged_0 hK _ N ?_
  rintro N1 rfl
  refine ⟨_, m_within (by omega) (by omega) (by omega), ?_⟩
  rintro r N2 ⟨rfl, rfl⟩
  refine ⟨zo_rng _, fun _ => ?_, fun z => by simp [hx] at z⟩
  refine ⟨_, m_copies (a := 0) (c := 0) atM_34 atM_35 (by omega) (by omega) (by omega) (by omega) (by omega), ?_⟩
  intro N3 e3
  have hR3 : RM t N3 := hT.2.2.2.2.1.thr.fr (by rw [e3, upr_eq, if_neg (by omega)]) (fun c _ _ => by rw [e3, upr_eq, if_neg (by omega)])
  have g0 : ∀ c, c ≠ 1 → c ≠ 35 → N3 c = N c := fun c h1 h2 => by rw [e3, upr_eq, if_neg h2, upr_eq, if_neg h1]
  refine ⟨_, m_fresh hR3 hW, ?_⟩
  rintro N4 ⟨f1, f2, f3⟩
  have e34 : N4 34 = s0F (tn t) N := by
    funext j
    unfold s0F
    by_cases q : j < 33
    · rw [if_pos q, f1 j q]
      unfold st0
      rw [g0 3 (by omega) (by omega), g0 6 (by omega) (by omega), g0 7 (by omega) (by omega)]
    · rw [if_neg q, f2 j (by omega), g0 34 (by omega) (by omega)]
  have hF4 : FrM scM scQ N N4 := (thrM.tr (by rw [e3]; exact FrM.up (c := 35) (by omega) (by omega))).tr (f3.wk (fun c hc => by omega) (fun _ z => z.elim))
  have h35 : ∀ i, i < 33 → N4 35 i = N 34 i := fun i hi => by
    rw [f3.1 35 (by omega) (by omega), e3]
    have := cp33_in (N := upr N 1 (up1 (N 1) 0 0)) (a := 34) (b := 35) hi
    rw [s34] at this
    exact this
  have key : ∀ k, k ≤ L' → ∀ N1 : Mm, N1 34 = (jdg t (N 27) (N 28) (N 29) (s0F (tn t) N) k).1 → RM t N1 → (∀ i, i < 33 → N1 35 i = N 34 i) → FrM scM scQ N N1 → K NM RRM 41 [(0, vr 1), (1, vi x), (2, vi (jdg t (N 27) (N 28) (N 29) (s0F (tn t) N) k).2.1), (3, vi (jdg t (N 27) (N 28) (N 29) (s0F (tn t) N) k).2.2), (4, vi (k : Int))] [] N1 := by
    refine up_ind ?_ ?_
    · intro N1 s1 s2 s3 s4
      refine w_Mod_judged_41 hK _ _ _ _ N1 ?_
      rw [s4.1 26 (by omega) (by omega), hL, s1]
      refine ⟨by omega, by omega, fun _ => ⟨_, m_copies (a := 0) (c := 0) atM_35 atM_34 (by omega) (by omega) (by omega) (by omega) (by omega), ?_⟩, fun z => absurd (Int.le_refl _) z⟩
      rintro N5 rfl
      have g : FrM scM scQ N (cp33 N1 35 34) ∧ ∀ i, i < 33 → (cp33 N1 35 34) 34 i = N 34 i := ⟨s4.tr (FrM.up (Or.inr (Or.inl rfl)) (by omega)), fun i hi => by rw [cp33_in hi, s3 i hi]⟩
      unfold vJudged
      refine ⟨by omega, fun a => ⟨by omega, fun b => ⟨?_, g⟩, fun b => ⟨?_, g⟩⟩, fun a => ⟨?_, g⟩⟩
      · rw [if_neg a, if_neg b]
      · rw [if_neg a, if_pos b]
      · rw [if_pos a]
    · intro k hk ih N1 s1 s2 s3 s4
      obtain ⟨w1, w2, w3⟩ := jdg_ok (D := N 27) (H := N 28) (X := N 29) hW hw0 k (fun j hj => ho j (by omega))
      have hok := ho k hk
      have hsn := shN_in t (jdg t (N 27) (N 28) (N 29) (s0F (tn t) N) k).1
      have e27 : N1 27 = N 27 := s4.1 27 (by omega) (by omega)
      have k77 : ∀ v, v = (jdg t (N 27) (N 28) (N 29) (s0F (tn t) N) (k + 1)).2.2 → K NM RRM 77 [(0, vr 1), (1, vi x), (2, vi (jdg t (N 27) (N 28) (N 29) (s0F (tn t) N) k).2.1), (3, vi v), (4, vi (k : Int))] [] N1 := by
        rintro v rfl
        refine w_Mod_judged_77 hK _ _ _ _ N1 ⟨_, m_goes s2 hW s1 w1 (by omega) (by omega) hok (by rw [e27]) (fun _ => by rw [s4.1 28 (by omega) (by omega)]) (fun _ => by rw [s4.1 29 (by omega) (by omega)]), ?_⟩
        rintro r N2 ⟨rfl, q1, q2⟩
        have ih2 := ih N2 q1 (s2.frM q2 (by omega) (fun c _ _ => by omega)) (fun i hi => by rw [q2.1 35 (by omega) (by omega)]; exact s3 i hi) (s4.tr (q2.wk scM_sub scQ_sub))
        refine ⟨zo_rng _, fun z => ?_, fun z => ⟨by omega, fun y => ?_, fun y => ?_⟩⟩
        · have e : (jdg t (N 27) (N 28) (N 29) (s0F (tn t) N) (k + 1)).2.1 = (jdg t (N 27) (N 28) (N 29) (s0F (tn t) N) k).2.1 := by
            show (if _ then _ else _) = _
            rw [if_pos (zo_ne z)]
          rw [e] at ih2
          exact ih2
        · have e : (jdg t (N 27) (N 28) (N 29) (s0F (tn t) N) (k + 1)).2.1 = (jdg t (N 27) (N 28) (N 29) (s0F (tn t) N) k).2.1 := by
            show (if _ then _ else if _ then _ else _) = _
            rw [if_neg (by rw [zo_0 z]; exact Bool.false_ne_true), if_neg (by omega)]
          rw [e] at ih2
          exact ih2
        · have e : (jdg t (N 27) (N 28) (N 29) (s0F (tn t) N) (k + 1)).2.1 = (k : Int) := by
            show (if _ then _ else if _ then _ else _) = _
            rw [if_neg (by rw [zo_0 z]; exact Bool.false_ne_true), if_pos (by omega)]
          rw [e] at ih2
          exact ih2
      refine w_Mod_judged_41 hK _ _ _ _ N1 ?_
      rw [s4.1 26 (by omega) (by omega), hL, Int.toNat_natCast, e27]
      refine ⟨by omega, by omega, fun z => by omega, fun _ => ⟨by omega, by have := hok.1; omega, fun z => k77 _ ?_, fun z => ⟨by omega, fun y => k77 _ ?_, fun y => ⟨_, m_shunnedNow s2 hW s1 w1, ?_⟩⟩⟩⟩
      · show _ = if _ then _ else _
        rw [if_neg (fun q => z q.1)]
      · show _ = if _ then _ else _
        rw [if_neg (fun q => by omega)]
      · rintro r N2 ⟨rfl, rfl⟩
        refine ⟨by omega, fun x => k77 _ ?_, fun x => k77 _ ?_⟩
        · show _ = if _ then _ else _
          rw [if_neg (fun q => by omega)]
        · show _ = if _ then _ else _
          rw [if_pos ⟨z, by omega, by omega⟩]
  exact key 0 (by omega) N4 e34 (hR3.frM f3 (by omega) (fun c _ _ => by omega)) h35 hF4
theorem op_judged {t : TT} {tb B : Nat} {M N : Mm} {x : Int} (hx : rng x) (h : Sim t tb B M N) : Op (S_Main_judged x) (S_Mod_judged x) B M N := by
  by_cases q : 0 ≤ x ∧ x ≤ 2
  · obtain ⟨L, -, hL, -⟩ := h.2.2.2.2.2.1
    exact Op.ask h (c_judged q h hL) (m_judged q h hL)
  · refine Op.ask (v := -2) h ?_ ?_
    · exact W_Main_judged _ M ⟨hx, fun _ => ⟨rfl, FrC.rf⟩, fun _ => ⟨hx, fun z => by omega, fun _ => ⟨rfl, FrC.rf⟩⟩⟩
    · refine e_Mod_judged _ N fun K hK => w_Mod_judged_0 hK _ N ?_
      rintro N1 rfl
      refine ⟨_, m_within hx (by omega) (by omega), ?_⟩
      rintro r2 N3 ⟨rfl, rfl⟩
      exact ⟨zo_rng _, fun z => absurd (by simpa using zo_ne z) q, fun _ => ⟨rfl, thrM, fun i _ => by rw [s34]⟩⟩
